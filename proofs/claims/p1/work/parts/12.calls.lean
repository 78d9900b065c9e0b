/-! CALLS BY INSTRUCTION; CATCHES; THE WHOLE: am_sim. Mine. -/
set_option maxHeartbeats 4000000 in
set_option maxRecDepth 100000 in
/-- what is thrown is one of three -/
theorem am_stp_thr {pc : Nat} {i : Instr} {an : List Nat} {ls : am_Lc} {st : List Value} {w : am_Wd} {r : am_Out × am_Wd} (h : am_stp pc i an ls st w = some (.inr (.inr r))) : ∀ E, r.1 = .inr E → E ∈ am_exn := by
  unfold am_stp at h
  split at h
  · -- iconst
    first | (cases h; done) | (simp [am_nx, Option.bind_eq_some_iff] at h; done) | (split at h <;> first | (cases h; done) | (simp [am_nx, Option.bind_eq_some_iff] at h; done) | (split at h <;> first | (cases h; done) | (simp [am_nx, Option.bind_eq_some_iff] at h; done) | (split at h <;> first | (cases h; done) | (simp [am_nx, Option.bind_eq_some_iff] at h; done) | (split at h <;> first | (cases h; done) | (simp [am_nx, Option.bind_eq_some_iff] at h; done) | (split at h <;> first | (cases h; done) | (simp [am_nx, Option.bind_eq_some_iff] at h; done))))))
  · -- bipush
    first | (cases h; done) | (simp [am_nx, Option.bind_eq_some_iff] at h; done) | (split at h <;> first | (cases h; done) | (simp [am_nx, Option.bind_eq_some_iff] at h; done) | (split at h <;> first | (cases h; done) | (simp [am_nx, Option.bind_eq_some_iff] at h; done) | (split at h <;> first | (cases h; done) | (simp [am_nx, Option.bind_eq_some_iff] at h; done) | (split at h <;> first | (cases h; done) | (simp [am_nx, Option.bind_eq_some_iff] at h; done) | (split at h <;> first | (cases h; done) | (simp [am_nx, Option.bind_eq_some_iff] at h; done))))))
  · -- sipush
    first | (cases h; done) | (simp [am_nx, Option.bind_eq_some_iff] at h; done) | (split at h <;> first | (cases h; done) | (simp [am_nx, Option.bind_eq_some_iff] at h; done) | (split at h <;> first | (cases h; done) | (simp [am_nx, Option.bind_eq_some_iff] at h; done) | (split at h <;> first | (cases h; done) | (simp [am_nx, Option.bind_eq_some_iff] at h; done) | (split at h <;> first | (cases h; done) | (simp [am_nx, Option.bind_eq_some_iff] at h; done) | (split at h <;> first | (cases h; done) | (simp [am_nx, Option.bind_eq_some_iff] at h; done))))))
  · -- lconst
    first | (cases h; done) | (simp [am_nx, Option.bind_eq_some_iff] at h; done) | (split at h <;> first | (cases h; done) | (simp [am_nx, Option.bind_eq_some_iff] at h; done) | (split at h <;> first | (cases h; done) | (simp [am_nx, Option.bind_eq_some_iff] at h; done) | (split at h <;> first | (cases h; done) | (simp [am_nx, Option.bind_eq_some_iff] at h; done) | (split at h <;> first | (cases h; done) | (simp [am_nx, Option.bind_eq_some_iff] at h; done) | (split at h <;> first | (cases h; done) | (simp [am_nx, Option.bind_eq_some_iff] at h; done))))))
  · -- dconst
    first | (cases h; done) | (simp [am_nx, Option.bind_eq_some_iff] at h; done) | (split at h <;> first | (cases h; done) | (simp [am_nx, Option.bind_eq_some_iff] at h; done) | (split at h <;> first | (cases h; done) | (simp [am_nx, Option.bind_eq_some_iff] at h; done) | (split at h <;> first | (cases h; done) | (simp [am_nx, Option.bind_eq_some_iff] at h; done) | (split at h <;> first | (cases h; done) | (simp [am_nx, Option.bind_eq_some_iff] at h; done) | (split at h <;> first | (cases h; done) | (simp [am_nx, Option.bind_eq_some_iff] at h; done))))))
  · -- aconst_null
    first | (cases h; done) | (simp [am_nx, Option.bind_eq_some_iff] at h; done) | (split at h <;> first | (cases h; done) | (simp [am_nx, Option.bind_eq_some_iff] at h; done) | (split at h <;> first | (cases h; done) | (simp [am_nx, Option.bind_eq_some_iff] at h; done) | (split at h <;> first | (cases h; done) | (simp [am_nx, Option.bind_eq_some_iff] at h; done) | (split at h <;> first | (cases h; done) | (simp [am_nx, Option.bind_eq_some_iff] at h; done) | (split at h <;> first | (cases h; done) | (simp [am_nx, Option.bind_eq_some_iff] at h; done))))))
  · -- ldc
    first | (cases h; done) | (simp [am_nx, Option.bind_eq_some_iff] at h; done) | (split at h <;> first | (cases h; done) | (simp [am_nx, Option.bind_eq_some_iff] at h; done) | (split at h <;> first | (cases h; done) | (simp [am_nx, Option.bind_eq_some_iff] at h; done) | (split at h <;> first | (cases h; done) | (simp [am_nx, Option.bind_eq_some_iff] at h; done) | (split at h <;> first | (cases h; done) | (simp [am_nx, Option.bind_eq_some_iff] at h; done) | (split at h <;> first | (cases h; done) | (simp [am_nx, Option.bind_eq_some_iff] at h; done))))))
  · -- ldc_w
    first | (cases h; done) | (simp [am_nx, Option.bind_eq_some_iff] at h; done) | (split at h <;> first | (cases h; done) | (simp [am_nx, Option.bind_eq_some_iff] at h; done) | (split at h <;> first | (cases h; done) | (simp [am_nx, Option.bind_eq_some_iff] at h; done) | (split at h <;> first | (cases h; done) | (simp [am_nx, Option.bind_eq_some_iff] at h; done) | (split at h <;> first | (cases h; done) | (simp [am_nx, Option.bind_eq_some_iff] at h; done) | (split at h <;> first | (cases h; done) | (simp [am_nx, Option.bind_eq_some_iff] at h; done))))))
  · -- ldc2_w
    first | (cases h; done) | (simp [am_nx, Option.bind_eq_some_iff] at h; done) | (split at h <;> first | (cases h; done) | (simp [am_nx, Option.bind_eq_some_iff] at h; done) | (split at h <;> first | (cases h; done) | (simp [am_nx, Option.bind_eq_some_iff] at h; done) | (split at h <;> first | (cases h; done) | (simp [am_nx, Option.bind_eq_some_iff] at h; done) | (split at h <;> first | (cases h; done) | (simp [am_nx, Option.bind_eq_some_iff] at h; done) | (split at h <;> first | (cases h; done) | (simp [am_nx, Option.bind_eq_some_iff] at h; done))))))
  · -- iload
    first | (cases h; done) | (simp [am_nx, Option.bind_eq_some_iff] at h; done) | (split at h <;> first | (cases h; done) | (simp [am_nx, Option.bind_eq_some_iff] at h; done) | (split at h <;> first | (cases h; done) | (simp [am_nx, Option.bind_eq_some_iff] at h; done) | (split at h <;> first | (cases h; done) | (simp [am_nx, Option.bind_eq_some_iff] at h; done) | (split at h <;> first | (cases h; done) | (simp [am_nx, Option.bind_eq_some_iff] at h; done) | (split at h <;> first | (cases h; done) | (simp [am_nx, Option.bind_eq_some_iff] at h; done))))))
  · -- iload_n
    first | (cases h; done) | (simp [am_nx, Option.bind_eq_some_iff] at h; done) | (split at h <;> first | (cases h; done) | (simp [am_nx, Option.bind_eq_some_iff] at h; done) | (split at h <;> first | (cases h; done) | (simp [am_nx, Option.bind_eq_some_iff] at h; done) | (split at h <;> first | (cases h; done) | (simp [am_nx, Option.bind_eq_some_iff] at h; done) | (split at h <;> first | (cases h; done) | (simp [am_nx, Option.bind_eq_some_iff] at h; done) | (split at h <;> first | (cases h; done) | (simp [am_nx, Option.bind_eq_some_iff] at h; done))))))
  · -- lload
    first | (cases h; done) | (simp [am_nx, Option.bind_eq_some_iff] at h; done) | (split at h <;> first | (cases h; done) | (simp [am_nx, Option.bind_eq_some_iff] at h; done) | (split at h <;> first | (cases h; done) | (simp [am_nx, Option.bind_eq_some_iff] at h; done) | (split at h <;> first | (cases h; done) | (simp [am_nx, Option.bind_eq_some_iff] at h; done) | (split at h <;> first | (cases h; done) | (simp [am_nx, Option.bind_eq_some_iff] at h; done) | (split at h <;> first | (cases h; done) | (simp [am_nx, Option.bind_eq_some_iff] at h; done))))))
  · -- lload_n
    first | (cases h; done) | (simp [am_nx, Option.bind_eq_some_iff] at h; done) | (split at h <;> first | (cases h; done) | (simp [am_nx, Option.bind_eq_some_iff] at h; done) | (split at h <;> first | (cases h; done) | (simp [am_nx, Option.bind_eq_some_iff] at h; done) | (split at h <;> first | (cases h; done) | (simp [am_nx, Option.bind_eq_some_iff] at h; done) | (split at h <;> first | (cases h; done) | (simp [am_nx, Option.bind_eq_some_iff] at h; done) | (split at h <;> first | (cases h; done) | (simp [am_nx, Option.bind_eq_some_iff] at h; done))))))
  · -- dload
    first | (cases h; done) | (simp [am_nx, Option.bind_eq_some_iff] at h; done) | (split at h <;> first | (cases h; done) | (simp [am_nx, Option.bind_eq_some_iff] at h; done) | (split at h <;> first | (cases h; done) | (simp [am_nx, Option.bind_eq_some_iff] at h; done) | (split at h <;> first | (cases h; done) | (simp [am_nx, Option.bind_eq_some_iff] at h; done) | (split at h <;> first | (cases h; done) | (simp [am_nx, Option.bind_eq_some_iff] at h; done) | (split at h <;> first | (cases h; done) | (simp [am_nx, Option.bind_eq_some_iff] at h; done))))))
  · -- aload
    first | (cases h; done) | (simp [am_nx, Option.bind_eq_some_iff] at h; done) | (split at h <;> first | (cases h; done) | (simp [am_nx, Option.bind_eq_some_iff] at h; done) | (split at h <;> first | (cases h; done) | (simp [am_nx, Option.bind_eq_some_iff] at h; done) | (split at h <;> first | (cases h; done) | (simp [am_nx, Option.bind_eq_some_iff] at h; done) | (split at h <;> first | (cases h; done) | (simp [am_nx, Option.bind_eq_some_iff] at h; done) | (split at h <;> first | (cases h; done) | (simp [am_nx, Option.bind_eq_some_iff] at h; done))))))
  · -- aload_n
    first | (cases h; done) | (simp [am_nx, Option.bind_eq_some_iff] at h; done) | (split at h <;> first | (cases h; done) | (simp [am_nx, Option.bind_eq_some_iff] at h; done) | (split at h <;> first | (cases h; done) | (simp [am_nx, Option.bind_eq_some_iff] at h; done) | (split at h <;> first | (cases h; done) | (simp [am_nx, Option.bind_eq_some_iff] at h; done) | (split at h <;> first | (cases h; done) | (simp [am_nx, Option.bind_eq_some_iff] at h; done) | (split at h <;> first | (cases h; done) | (simp [am_nx, Option.bind_eq_some_iff] at h; done))))))
  · -- istore
    first | (cases h; done) | (simp [am_nx, Option.bind_eq_some_iff] at h; done) | (split at h <;> first | (cases h; done) | (simp [am_nx, Option.bind_eq_some_iff] at h; done) | (split at h <;> first | (cases h; done) | (simp [am_nx, Option.bind_eq_some_iff] at h; done) | (split at h <;> first | (cases h; done) | (simp [am_nx, Option.bind_eq_some_iff] at h; done) | (split at h <;> first | (cases h; done) | (simp [am_nx, Option.bind_eq_some_iff] at h; done) | (split at h <;> first | (cases h; done) | (simp [am_nx, Option.bind_eq_some_iff] at h; done))))))
  · -- istore_n
    first | (cases h; done) | (simp [am_nx, Option.bind_eq_some_iff] at h; done) | (split at h <;> first | (cases h; done) | (simp [am_nx, Option.bind_eq_some_iff] at h; done) | (split at h <;> first | (cases h; done) | (simp [am_nx, Option.bind_eq_some_iff] at h; done) | (split at h <;> first | (cases h; done) | (simp [am_nx, Option.bind_eq_some_iff] at h; done) | (split at h <;> first | (cases h; done) | (simp [am_nx, Option.bind_eq_some_iff] at h; done) | (split at h <;> first | (cases h; done) | (simp [am_nx, Option.bind_eq_some_iff] at h; done))))))
  · -- lstore
    first | (cases h; done) | (simp [am_nx, Option.bind_eq_some_iff] at h; done) | (split at h <;> first | (cases h; done) | (simp [am_nx, Option.bind_eq_some_iff] at h; done) | (split at h <;> first | (cases h; done) | (simp [am_nx, Option.bind_eq_some_iff] at h; done) | (split at h <;> first | (cases h; done) | (simp [am_nx, Option.bind_eq_some_iff] at h; done) | (split at h <;> first | (cases h; done) | (simp [am_nx, Option.bind_eq_some_iff] at h; done) | (split at h <;> first | (cases h; done) | (simp [am_nx, Option.bind_eq_some_iff] at h; done))))))
  · -- lstore_n
    first | (cases h; done) | (simp [am_nx, Option.bind_eq_some_iff] at h; done) | (split at h <;> first | (cases h; done) | (simp [am_nx, Option.bind_eq_some_iff] at h; done) | (split at h <;> first | (cases h; done) | (simp [am_nx, Option.bind_eq_some_iff] at h; done) | (split at h <;> first | (cases h; done) | (simp [am_nx, Option.bind_eq_some_iff] at h; done) | (split at h <;> first | (cases h; done) | (simp [am_nx, Option.bind_eq_some_iff] at h; done) | (split at h <;> first | (cases h; done) | (simp [am_nx, Option.bind_eq_some_iff] at h; done))))))
  · -- dstore
    first | (cases h; done) | (simp [am_nx, Option.bind_eq_some_iff] at h; done) | (split at h <;> first | (cases h; done) | (simp [am_nx, Option.bind_eq_some_iff] at h; done) | (split at h <;> first | (cases h; done) | (simp [am_nx, Option.bind_eq_some_iff] at h; done) | (split at h <;> first | (cases h; done) | (simp [am_nx, Option.bind_eq_some_iff] at h; done) | (split at h <;> first | (cases h; done) | (simp [am_nx, Option.bind_eq_some_iff] at h; done) | (split at h <;> first | (cases h; done) | (simp [am_nx, Option.bind_eq_some_iff] at h; done))))))
  · -- astore
    first | (cases h; done) | (simp [am_nx, Option.bind_eq_some_iff] at h; done) | (split at h <;> first | (cases h; done) | (simp [am_nx, Option.bind_eq_some_iff] at h; done) | (split at h <;> first | (cases h; done) | (simp [am_nx, Option.bind_eq_some_iff] at h; done) | (split at h <;> first | (cases h; done) | (simp [am_nx, Option.bind_eq_some_iff] at h; done) | (split at h <;> first | (cases h; done) | (simp [am_nx, Option.bind_eq_some_iff] at h; done) | (split at h <;> first | (cases h; done) | (simp [am_nx, Option.bind_eq_some_iff] at h; done))))))
  · -- astore_n
    first | (cases h; done) | (simp [am_nx, Option.bind_eq_some_iff] at h; done) | (split at h <;> first | (cases h; done) | (simp [am_nx, Option.bind_eq_some_iff] at h; done) | (split at h <;> first | (cases h; done) | (simp [am_nx, Option.bind_eq_some_iff] at h; done) | (split at h <;> first | (cases h; done) | (simp [am_nx, Option.bind_eq_some_iff] at h; done) | (split at h <;> first | (cases h; done) | (simp [am_nx, Option.bind_eq_some_iff] at h; done) | (split at h <;> first | (cases h; done) | (simp [am_nx, Option.bind_eq_some_iff] at h; done))))))
  · -- iinc
    first | (cases h; done) | (simp [am_nx, Option.bind_eq_some_iff] at h; done) | (split at h <;> first | (cases h; done) | (simp [am_nx, Option.bind_eq_some_iff] at h; done) | (split at h <;> first | (cases h; done) | (simp [am_nx, Option.bind_eq_some_iff] at h; done) | (split at h <;> first | (cases h; done) | (simp [am_nx, Option.bind_eq_some_iff] at h; done) | (split at h <;> first | (cases h; done) | (simp [am_nx, Option.bind_eq_some_iff] at h; done) | (split at h <;> first | (cases h; done) | (simp [am_nx, Option.bind_eq_some_iff] at h; done))))))
  · -- iadd
    first | (cases h; done) | (simp [am_nx, Option.bind_eq_some_iff] at h; done) | (split at h <;> first | (cases h; done) | (simp [am_nx, Option.bind_eq_some_iff] at h; done) | (split at h <;> first | (cases h; done) | (simp [am_nx, Option.bind_eq_some_iff] at h; done) | (split at h <;> first | (cases h; done) | (simp [am_nx, Option.bind_eq_some_iff] at h; done) | (split at h <;> first | (cases h; done) | (simp [am_nx, Option.bind_eq_some_iff] at h; done) | (split at h <;> first | (cases h; done) | (simp [am_nx, Option.bind_eq_some_iff] at h; done))))))
  · -- isub
    first | (cases h; done) | (simp [am_nx, Option.bind_eq_some_iff] at h; done) | (split at h <;> first | (cases h; done) | (simp [am_nx, Option.bind_eq_some_iff] at h; done) | (split at h <;> first | (cases h; done) | (simp [am_nx, Option.bind_eq_some_iff] at h; done) | (split at h <;> first | (cases h; done) | (simp [am_nx, Option.bind_eq_some_iff] at h; done) | (split at h <;> first | (cases h; done) | (simp [am_nx, Option.bind_eq_some_iff] at h; done) | (split at h <;> first | (cases h; done) | (simp [am_nx, Option.bind_eq_some_iff] at h; done))))))
  · -- imul
    first | (cases h; done) | (simp [am_nx, Option.bind_eq_some_iff] at h; done) | (split at h <;> first | (cases h; done) | (simp [am_nx, Option.bind_eq_some_iff] at h; done) | (split at h <;> first | (cases h; done) | (simp [am_nx, Option.bind_eq_some_iff] at h; done) | (split at h <;> first | (cases h; done) | (simp [am_nx, Option.bind_eq_some_iff] at h; done) | (split at h <;> first | (cases h; done) | (simp [am_nx, Option.bind_eq_some_iff] at h; done) | (split at h <;> first | (cases h; done) | (simp [am_nx, Option.bind_eq_some_iff] at h; done))))))
  · -- idiv
    first | (cases h; done) | (simp [am_nx, Option.bind_eq_some_iff] at h; done) | (split at h <;> first | (cases h; done) | (simp [am_nx, Option.bind_eq_some_iff] at h; done) | (split at h <;> first | (cases h; done) | (simp [am_nx, Option.bind_eq_some_iff] at h; done) | (split at h <;> first | (cases h; done) | (simp [am_nx, Option.bind_eq_some_iff] at h; done) | (split at h <;> first | (cases h; done) | (simp [am_nx, Option.bind_eq_some_iff] at h; done) | (split at h <;> first | (cases h; done) | (simp [am_nx, Option.bind_eq_some_iff] at h; done))))))
  · -- irem
    first | (cases h; done) | (simp [am_nx, Option.bind_eq_some_iff] at h; done) | (split at h <;> first | (cases h; done) | (simp [am_nx, Option.bind_eq_some_iff] at h; done) | (split at h <;> first | (cases h; done) | (simp [am_nx, Option.bind_eq_some_iff] at h; done) | (split at h <;> first | (cases h; done) | (simp [am_nx, Option.bind_eq_some_iff] at h; done) | (split at h <;> first | (cases h; done) | (simp [am_nx, Option.bind_eq_some_iff] at h; done) | (split at h <;> first | (cases h; done) | (simp [am_nx, Option.bind_eq_some_iff] at h; done))))))
  · -- ineg
    first | (cases h; done) | (simp [am_nx, Option.bind_eq_some_iff] at h; done) | (split at h <;> first | (cases h; done) | (simp [am_nx, Option.bind_eq_some_iff] at h; done) | (split at h <;> first | (cases h; done) | (simp [am_nx, Option.bind_eq_some_iff] at h; done) | (split at h <;> first | (cases h; done) | (simp [am_nx, Option.bind_eq_some_iff] at h; done) | (split at h <;> first | (cases h; done) | (simp [am_nx, Option.bind_eq_some_iff] at h; done) | (split at h <;> first | (cases h; done) | (simp [am_nx, Option.bind_eq_some_iff] at h; done))))))
  · -- iand
    first | (cases h; done) | (simp [am_nx, Option.bind_eq_some_iff] at h; done) | (split at h <;> first | (cases h; done) | (simp [am_nx, Option.bind_eq_some_iff] at h; done) | (split at h <;> first | (cases h; done) | (simp [am_nx, Option.bind_eq_some_iff] at h; done) | (split at h <;> first | (cases h; done) | (simp [am_nx, Option.bind_eq_some_iff] at h; done) | (split at h <;> first | (cases h; done) | (simp [am_nx, Option.bind_eq_some_iff] at h; done) | (split at h <;> first | (cases h; done) | (simp [am_nx, Option.bind_eq_some_iff] at h; done))))))
  · -- ior
    first | (cases h; done) | (simp [am_nx, Option.bind_eq_some_iff] at h; done) | (split at h <;> first | (cases h; done) | (simp [am_nx, Option.bind_eq_some_iff] at h; done) | (split at h <;> first | (cases h; done) | (simp [am_nx, Option.bind_eq_some_iff] at h; done) | (split at h <;> first | (cases h; done) | (simp [am_nx, Option.bind_eq_some_iff] at h; done) | (split at h <;> first | (cases h; done) | (simp [am_nx, Option.bind_eq_some_iff] at h; done) | (split at h <;> first | (cases h; done) | (simp [am_nx, Option.bind_eq_some_iff] at h; done))))))
  · -- ixor
    first | (cases h; done) | (simp [am_nx, Option.bind_eq_some_iff] at h; done) | (split at h <;> first | (cases h; done) | (simp [am_nx, Option.bind_eq_some_iff] at h; done) | (split at h <;> first | (cases h; done) | (simp [am_nx, Option.bind_eq_some_iff] at h; done) | (split at h <;> first | (cases h; done) | (simp [am_nx, Option.bind_eq_some_iff] at h; done) | (split at h <;> first | (cases h; done) | (simp [am_nx, Option.bind_eq_some_iff] at h; done) | (split at h <;> first | (cases h; done) | (simp [am_nx, Option.bind_eq_some_iff] at h; done))))))
  · -- ishl
    first | (cases h; done) | (simp [am_nx, Option.bind_eq_some_iff] at h; done) | (split at h <;> first | (cases h; done) | (simp [am_nx, Option.bind_eq_some_iff] at h; done) | (split at h <;> first | (cases h; done) | (simp [am_nx, Option.bind_eq_some_iff] at h; done) | (split at h <;> first | (cases h; done) | (simp [am_nx, Option.bind_eq_some_iff] at h; done) | (split at h <;> first | (cases h; done) | (simp [am_nx, Option.bind_eq_some_iff] at h; done) | (split at h <;> first | (cases h; done) | (simp [am_nx, Option.bind_eq_some_iff] at h; done))))))
  · -- ishr
    first | (cases h; done) | (simp [am_nx, Option.bind_eq_some_iff] at h; done) | (split at h <;> first | (cases h; done) | (simp [am_nx, Option.bind_eq_some_iff] at h; done) | (split at h <;> first | (cases h; done) | (simp [am_nx, Option.bind_eq_some_iff] at h; done) | (split at h <;> first | (cases h; done) | (simp [am_nx, Option.bind_eq_some_iff] at h; done) | (split at h <;> first | (cases h; done) | (simp [am_nx, Option.bind_eq_some_iff] at h; done) | (split at h <;> first | (cases h; done) | (simp [am_nx, Option.bind_eq_some_iff] at h; done))))))
  · -- iushr
    first | (cases h; done) | (simp [am_nx, Option.bind_eq_some_iff] at h; done) | (split at h <;> first | (cases h; done) | (simp [am_nx, Option.bind_eq_some_iff] at h; done) | (split at h <;> first | (cases h; done) | (simp [am_nx, Option.bind_eq_some_iff] at h; done) | (split at h <;> first | (cases h; done) | (simp [am_nx, Option.bind_eq_some_iff] at h; done) | (split at h <;> first | (cases h; done) | (simp [am_nx, Option.bind_eq_some_iff] at h; done) | (split at h <;> first | (cases h; done) | (simp [am_nx, Option.bind_eq_some_iff] at h; done))))))
  · -- ladd
    first | (cases h; done) | (simp [am_nx, Option.bind_eq_some_iff] at h; done) | (split at h <;> first | (cases h; done) | (simp [am_nx, Option.bind_eq_some_iff] at h; done) | (split at h <;> first | (cases h; done) | (simp [am_nx, Option.bind_eq_some_iff] at h; done) | (split at h <;> first | (cases h; done) | (simp [am_nx, Option.bind_eq_some_iff] at h; done) | (split at h <;> first | (cases h; done) | (simp [am_nx, Option.bind_eq_some_iff] at h; done) | (split at h <;> first | (cases h; done) | (simp [am_nx, Option.bind_eq_some_iff] at h; done))))))
  · -- lsub
    first | (cases h; done) | (simp [am_nx, Option.bind_eq_some_iff] at h; done) | (split at h <;> first | (cases h; done) | (simp [am_nx, Option.bind_eq_some_iff] at h; done) | (split at h <;> first | (cases h; done) | (simp [am_nx, Option.bind_eq_some_iff] at h; done) | (split at h <;> first | (cases h; done) | (simp [am_nx, Option.bind_eq_some_iff] at h; done) | (split at h <;> first | (cases h; done) | (simp [am_nx, Option.bind_eq_some_iff] at h; done) | (split at h <;> first | (cases h; done) | (simp [am_nx, Option.bind_eq_some_iff] at h; done))))))
  · -- lmul
    first | (cases h; done) | (simp [am_nx, Option.bind_eq_some_iff] at h; done) | (split at h <;> first | (cases h; done) | (simp [am_nx, Option.bind_eq_some_iff] at h; done) | (split at h <;> first | (cases h; done) | (simp [am_nx, Option.bind_eq_some_iff] at h; done) | (split at h <;> first | (cases h; done) | (simp [am_nx, Option.bind_eq_some_iff] at h; done) | (split at h <;> first | (cases h; done) | (simp [am_nx, Option.bind_eq_some_iff] at h; done) | (split at h <;> first | (cases h; done) | (simp [am_nx, Option.bind_eq_some_iff] at h; done))))))
  · -- land
    first | (cases h; done) | (simp [am_nx, Option.bind_eq_some_iff] at h; done) | (split at h <;> first | (cases h; done) | (simp [am_nx, Option.bind_eq_some_iff] at h; done) | (split at h <;> first | (cases h; done) | (simp [am_nx, Option.bind_eq_some_iff] at h; done) | (split at h <;> first | (cases h; done) | (simp [am_nx, Option.bind_eq_some_iff] at h; done) | (split at h <;> first | (cases h; done) | (simp [am_nx, Option.bind_eq_some_iff] at h; done) | (split at h <;> first | (cases h; done) | (simp [am_nx, Option.bind_eq_some_iff] at h; done))))))
  · -- lor
    first | (cases h; done) | (simp [am_nx, Option.bind_eq_some_iff] at h; done) | (split at h <;> first | (cases h; done) | (simp [am_nx, Option.bind_eq_some_iff] at h; done) | (split at h <;> first | (cases h; done) | (simp [am_nx, Option.bind_eq_some_iff] at h; done) | (split at h <;> first | (cases h; done) | (simp [am_nx, Option.bind_eq_some_iff] at h; done) | (split at h <;> first | (cases h; done) | (simp [am_nx, Option.bind_eq_some_iff] at h; done) | (split at h <;> first | (cases h; done) | (simp [am_nx, Option.bind_eq_some_iff] at h; done))))))
  · -- lxor
    first | (cases h; done) | (simp [am_nx, Option.bind_eq_some_iff] at h; done) | (split at h <;> first | (cases h; done) | (simp [am_nx, Option.bind_eq_some_iff] at h; done) | (split at h <;> first | (cases h; done) | (simp [am_nx, Option.bind_eq_some_iff] at h; done) | (split at h <;> first | (cases h; done) | (simp [am_nx, Option.bind_eq_some_iff] at h; done) | (split at h <;> first | (cases h; done) | (simp [am_nx, Option.bind_eq_some_iff] at h; done) | (split at h <;> first | (cases h; done) | (simp [am_nx, Option.bind_eq_some_iff] at h; done))))))
  · -- lshl
    first | (cases h; done) | (simp [am_nx, Option.bind_eq_some_iff] at h; done) | (split at h <;> first | (cases h; done) | (simp [am_nx, Option.bind_eq_some_iff] at h; done) | (split at h <;> first | (cases h; done) | (simp [am_nx, Option.bind_eq_some_iff] at h; done) | (split at h <;> first | (cases h; done) | (simp [am_nx, Option.bind_eq_some_iff] at h; done) | (split at h <;> first | (cases h; done) | (simp [am_nx, Option.bind_eq_some_iff] at h; done) | (split at h <;> first | (cases h; done) | (simp [am_nx, Option.bind_eq_some_iff] at h; done))))))
  · -- lushr
    first | (cases h; done) | (simp [am_nx, Option.bind_eq_some_iff] at h; done) | (split at h <;> first | (cases h; done) | (simp [am_nx, Option.bind_eq_some_iff] at h; done) | (split at h <;> first | (cases h; done) | (simp [am_nx, Option.bind_eq_some_iff] at h; done) | (split at h <;> first | (cases h; done) | (simp [am_nx, Option.bind_eq_some_iff] at h; done) | (split at h <;> first | (cases h; done) | (simp [am_nx, Option.bind_eq_some_iff] at h; done) | (split at h <;> first | (cases h; done) | (simp [am_nx, Option.bind_eq_some_iff] at h; done))))))
  · -- lcmp
    first | (cases h; done) | (simp [am_nx, Option.bind_eq_some_iff] at h; done) | (split at h <;> first | (cases h; done) | (simp [am_nx, Option.bind_eq_some_iff] at h; done) | (split at h <;> first | (cases h; done) | (simp [am_nx, Option.bind_eq_some_iff] at h; done) | (split at h <;> first | (cases h; done) | (simp [am_nx, Option.bind_eq_some_iff] at h; done) | (split at h <;> first | (cases h; done) | (simp [am_nx, Option.bind_eq_some_iff] at h; done) | (split at h <;> first | (cases h; done) | (simp [am_nx, Option.bind_eq_some_iff] at h; done))))))
  · -- i2l
    first | (cases h; done) | (simp [am_nx, Option.bind_eq_some_iff] at h; done) | (split at h <;> first | (cases h; done) | (simp [am_nx, Option.bind_eq_some_iff] at h; done) | (split at h <;> first | (cases h; done) | (simp [am_nx, Option.bind_eq_some_iff] at h; done) | (split at h <;> first | (cases h; done) | (simp [am_nx, Option.bind_eq_some_iff] at h; done) | (split at h <;> first | (cases h; done) | (simp [am_nx, Option.bind_eq_some_iff] at h; done) | (split at h <;> first | (cases h; done) | (simp [am_nx, Option.bind_eq_some_iff] at h; done))))))
  · -- l2i
    first | (cases h; done) | (simp [am_nx, Option.bind_eq_some_iff] at h; done) | (split at h <;> first | (cases h; done) | (simp [am_nx, Option.bind_eq_some_iff] at h; done) | (split at h <;> first | (cases h; done) | (simp [am_nx, Option.bind_eq_some_iff] at h; done) | (split at h <;> first | (cases h; done) | (simp [am_nx, Option.bind_eq_some_iff] at h; done) | (split at h <;> first | (cases h; done) | (simp [am_nx, Option.bind_eq_some_iff] at h; done) | (split at h <;> first | (cases h; done) | (simp [am_nx, Option.bind_eq_some_iff] at h; done))))))
  · -- i2b
    first | (cases h; done) | (simp [am_nx, Option.bind_eq_some_iff] at h; done) | (split at h <;> first | (cases h; done) | (simp [am_nx, Option.bind_eq_some_iff] at h; done) | (split at h <;> first | (cases h; done) | (simp [am_nx, Option.bind_eq_some_iff] at h; done) | (split at h <;> first | (cases h; done) | (simp [am_nx, Option.bind_eq_some_iff] at h; done) | (split at h <;> first | (cases h; done) | (simp [am_nx, Option.bind_eq_some_iff] at h; done) | (split at h <;> first | (cases h; done) | (simp [am_nx, Option.bind_eq_some_iff] at h; done))))))
  · -- i2c
    first | (cases h; done) | (simp [am_nx, Option.bind_eq_some_iff] at h; done) | (split at h <;> first | (cases h; done) | (simp [am_nx, Option.bind_eq_some_iff] at h; done) | (split at h <;> first | (cases h; done) | (simp [am_nx, Option.bind_eq_some_iff] at h; done) | (split at h <;> first | (cases h; done) | (simp [am_nx, Option.bind_eq_some_iff] at h; done) | (split at h <;> first | (cases h; done) | (simp [am_nx, Option.bind_eq_some_iff] at h; done) | (split at h <;> first | (cases h; done) | (simp [am_nx, Option.bind_eq_some_iff] at h; done))))))
  · -- i2d
    first | (cases h; done) | (simp [am_nx, Option.bind_eq_some_iff] at h; done) | (split at h <;> first | (cases h; done) | (simp [am_nx, Option.bind_eq_some_iff] at h; done) | (split at h <;> first | (cases h; done) | (simp [am_nx, Option.bind_eq_some_iff] at h; done) | (split at h <;> first | (cases h; done) | (simp [am_nx, Option.bind_eq_some_iff] at h; done) | (split at h <;> first | (cases h; done) | (simp [am_nx, Option.bind_eq_some_iff] at h; done) | (split at h <;> first | (cases h; done) | (simp [am_nx, Option.bind_eq_some_iff] at h; done))))))
  · -- d2l
    first | (cases h; done) | (simp [am_nx, Option.bind_eq_some_iff] at h; done) | (split at h <;> first | (cases h; done) | (simp [am_nx, Option.bind_eq_some_iff] at h; done) | (split at h <;> first | (cases h; done) | (simp [am_nx, Option.bind_eq_some_iff] at h; done) | (split at h <;> first | (cases h; done) | (simp [am_nx, Option.bind_eq_some_iff] at h; done) | (split at h <;> first | (cases h; done) | (simp [am_nx, Option.bind_eq_some_iff] at h; done) | (split at h <;> first | (cases h; done) | (simp [am_nx, Option.bind_eq_some_iff] at h; done))))))
  · -- ddiv
    first | (cases h; done) | (simp [am_nx, Option.bind_eq_some_iff] at h; done) | (split at h <;> first | (cases h; done) | (simp [am_nx, Option.bind_eq_some_iff] at h; done) | (split at h <;> first | (cases h; done) | (simp [am_nx, Option.bind_eq_some_iff] at h; done) | (split at h <;> first | (cases h; done) | (simp [am_nx, Option.bind_eq_some_iff] at h; done) | (split at h <;> first | (cases h; done) | (simp [am_nx, Option.bind_eq_some_iff] at h; done) | (split at h <;> first | (cases h; done) | (simp [am_nx, Option.bind_eq_some_iff] at h; done))))))
  · -- dmul
    first | (cases h; done) | (simp [am_nx, Option.bind_eq_some_iff] at h; done) | (split at h <;> first | (cases h; done) | (simp [am_nx, Option.bind_eq_some_iff] at h; done) | (split at h <;> first | (cases h; done) | (simp [am_nx, Option.bind_eq_some_iff] at h; done) | (split at h <;> first | (cases h; done) | (simp [am_nx, Option.bind_eq_some_iff] at h; done) | (split at h <;> first | (cases h; done) | (simp [am_nx, Option.bind_eq_some_iff] at h; done) | (split at h <;> first | (cases h; done) | (simp [am_nx, Option.bind_eq_some_iff] at h; done))))))
  · -- dcmp
    first | (cases h; done) | (simp [am_nx, Option.bind_eq_some_iff] at h; done) | (split at h <;> first | (cases h; done) | (simp [am_nx, Option.bind_eq_some_iff] at h; done) | (split at h <;> first | (cases h; done) | (simp [am_nx, Option.bind_eq_some_iff] at h; done) | (split at h <;> first | (cases h; done) | (simp [am_nx, Option.bind_eq_some_iff] at h; done) | (split at h <;> first | (cases h; done) | (simp [am_nx, Option.bind_eq_some_iff] at h; done) | (split at h <;> first | (cases h; done) | (simp [am_nx, Option.bind_eq_some_iff] at h; done))))))
  · -- dup
    first | (cases h; done) | (simp [am_nx, Option.bind_eq_some_iff] at h; done) | (split at h <;> first | (cases h; done) | (simp [am_nx, Option.bind_eq_some_iff] at h; done) | (split at h <;> first | (cases h; done) | (simp [am_nx, Option.bind_eq_some_iff] at h; done) | (split at h <;> first | (cases h; done) | (simp [am_nx, Option.bind_eq_some_iff] at h; done) | (split at h <;> first | (cases h; done) | (simp [am_nx, Option.bind_eq_some_iff] at h; done) | (split at h <;> first | (cases h; done) | (simp [am_nx, Option.bind_eq_some_iff] at h; done))))))
  · -- dup_x1
    first | (cases h; done) | (simp [am_nx, Option.bind_eq_some_iff] at h; done) | (split at h <;> first | (cases h; done) | (simp [am_nx, Option.bind_eq_some_iff] at h; done) | (split at h <;> first | (cases h; done) | (simp [am_nx, Option.bind_eq_some_iff] at h; done) | (split at h <;> first | (cases h; done) | (simp [am_nx, Option.bind_eq_some_iff] at h; done) | (split at h <;> first | (cases h; done) | (simp [am_nx, Option.bind_eq_some_iff] at h; done) | (split at h <;> first | (cases h; done) | (simp [am_nx, Option.bind_eq_some_iff] at h; done))))))
  · -- dup2
    first | (cases h; done) | (simp [am_nx, Option.bind_eq_some_iff] at h; done) | (split at h <;> first | (cases h; done) | (simp [am_nx, Option.bind_eq_some_iff] at h; done) | (split at h <;> first | (cases h; done) | (simp [am_nx, Option.bind_eq_some_iff] at h; done) | (split at h <;> first | (cases h; done) | (simp [am_nx, Option.bind_eq_some_iff] at h; done) | (split at h <;> first | (cases h; done) | (simp [am_nx, Option.bind_eq_some_iff] at h; done) | (split at h <;> first | (cases h; done) | (simp [am_nx, Option.bind_eq_some_iff] at h; done))))))
  · -- pop
    first | (cases h; done) | (simp [am_nx, Option.bind_eq_some_iff] at h; done) | (split at h <;> first | (cases h; done) | (simp [am_nx, Option.bind_eq_some_iff] at h; done) | (split at h <;> first | (cases h; done) | (simp [am_nx, Option.bind_eq_some_iff] at h; done) | (split at h <;> first | (cases h; done) | (simp [am_nx, Option.bind_eq_some_iff] at h; done) | (split at h <;> first | (cases h; done) | (simp [am_nx, Option.bind_eq_some_iff] at h; done) | (split at h <;> first | (cases h; done) | (simp [am_nx, Option.bind_eq_some_iff] at h; done))))))
  · -- pop2
    first | (cases h; done) | (simp [am_nx, Option.bind_eq_some_iff] at h; done) | (split at h <;> first | (cases h; done) | (simp [am_nx, Option.bind_eq_some_iff] at h; done) | (split at h <;> first | (cases h; done) | (simp [am_nx, Option.bind_eq_some_iff] at h; done) | (split at h <;> first | (cases h; done) | (simp [am_nx, Option.bind_eq_some_iff] at h; done) | (split at h <;> first | (cases h; done) | (simp [am_nx, Option.bind_eq_some_iff] at h; done) | (split at h <;> first | (cases h; done) | (simp [am_nx, Option.bind_eq_some_iff] at h; done))))))
  · -- goto
    first | (cases h; done) | (simp [am_nx, Option.bind_eq_some_iff] at h; done) | (split at h <;> first | (cases h; done) | (simp [am_nx, Option.bind_eq_some_iff] at h; done) | (split at h <;> first | (cases h; done) | (simp [am_nx, Option.bind_eq_some_iff] at h; done) | (split at h <;> first | (cases h; done) | (simp [am_nx, Option.bind_eq_some_iff] at h; done) | (split at h <;> first | (cases h; done) | (simp [am_nx, Option.bind_eq_some_iff] at h; done) | (split at h <;> first | (cases h; done) | (simp [am_nx, Option.bind_eq_some_iff] at h; done))))))
  · -- ifCond
    split at h
    · exact absurd h (am_br_no _ _ _ _ _ _ _)
    · cases h
  · -- if_icmp
    split at h
    · exact absurd h (am_br_no _ _ _ _ _ _ _)
    · cases h
  · -- if_acmp
    split at h
    · exact absurd h (am_br_no _ _ _ _ _ _ _)
    · cases h
  · -- ifnull
    first | (cases h; done) | (simp [am_nx, Option.bind_eq_some_iff] at h; done) | (split at h <;> first | (cases h; done) | (simp [am_nx, Option.bind_eq_some_iff] at h; done) | (split at h <;> first | (cases h; done) | (simp [am_nx, Option.bind_eq_some_iff] at h; done) | (split at h <;> first | (cases h; done) | (simp [am_nx, Option.bind_eq_some_iff] at h; done) | (split at h <;> first | (cases h; done) | (simp [am_nx, Option.bind_eq_some_iff] at h; done) | (split at h <;> first | (cases h; done) | (simp [am_nx, Option.bind_eq_some_iff] at h; done))))))
  · -- ifnonnull
    first | (cases h; done) | (simp [am_nx, Option.bind_eq_some_iff] at h; done) | (split at h <;> first | (cases h; done) | (simp [am_nx, Option.bind_eq_some_iff] at h; done) | (split at h <;> first | (cases h; done) | (simp [am_nx, Option.bind_eq_some_iff] at h; done) | (split at h <;> first | (cases h; done) | (simp [am_nx, Option.bind_eq_some_iff] at h; done) | (split at h <;> first | (cases h; done) | (simp [am_nx, Option.bind_eq_some_iff] at h; done) | (split at h <;> first | (cases h; done) | (simp [am_nx, Option.bind_eq_some_iff] at h; done))))))
  · -- lookupswitch
    first | (cases h; done) | (simp [am_nx, Option.bind_eq_some_iff] at h; done) | (split at h <;> first | (cases h; done) | (simp [am_nx, Option.bind_eq_some_iff] at h; done) | (split at h <;> first | (cases h; done) | (simp [am_nx, Option.bind_eq_some_iff] at h; done) | (split at h <;> first | (cases h; done) | (simp [am_nx, Option.bind_eq_some_iff] at h; done) | (split at h <;> first | (cases h; done) | (simp [am_nx, Option.bind_eq_some_iff] at h; done) | (split at h <;> first | (cases h; done) | (simp [am_nx, Option.bind_eq_some_iff] at h; done))))))
  · -- tableswitch
    first | (cases h; done) | (simp [am_nx, Option.bind_eq_some_iff] at h; done) | (split at h <;> first | (cases h; done) | (simp [am_nx, Option.bind_eq_some_iff] at h; done) | (split at h <;> first | (cases h; done) | (simp [am_nx, Option.bind_eq_some_iff] at h; done) | (split at h <;> first | (cases h; done) | (simp [am_nx, Option.bind_eq_some_iff] at h; done) | (split at h <;> first | (cases h; done) | (simp [am_nx, Option.bind_eq_some_iff] at h; done) | (split at h <;> first | (cases h; done) | (simp [am_nx, Option.bind_eq_some_iff] at h; done))))))
  · -- getfield
    first | (cases h; done) | (simp [am_nx, Option.bind_eq_some_iff] at h; done) | (split at h <;> first | (cases h; done) | (simp [am_nx, Option.bind_eq_some_iff] at h; done) | (split at h <;> first | (cases h; done) | (simp [am_nx, Option.bind_eq_some_iff] at h; done) | (split at h <;> first | (cases h; done) | (simp [am_nx, Option.bind_eq_some_iff] at h; done) | (split at h <;> first | (cases h; done) | (simp [am_nx, Option.bind_eq_some_iff] at h; done) | (split at h <;> first | (cases h; done) | (simp [am_nx, Option.bind_eq_some_iff] at h; done))))))
  · -- putfield
    first | (cases h; done) | (simp [am_nx, Option.bind_eq_some_iff] at h; done) | (split at h <;> first | (cases h; done) | (simp [am_nx, Option.bind_eq_some_iff] at h; done) | (split at h <;> first | (cases h; done) | (simp [am_nx, Option.bind_eq_some_iff] at h; done) | (split at h <;> first | (cases h; done) | (simp [am_nx, Option.bind_eq_some_iff] at h; done) | (split at h <;> first | (cases h; done) | (simp [am_nx, Option.bind_eq_some_iff] at h; done) | (split at h <;> first | (cases h; done) | (simp [am_nx, Option.bind_eq_some_iff] at h; done))))))
  · -- getstatic
    first | (cases h; done) | (simp [am_nx, Option.bind_eq_some_iff] at h; done) | (split at h <;> first | (cases h; done) | (simp [am_nx, Option.bind_eq_some_iff] at h; done) | (split at h <;> first | (cases h; done) | (simp [am_nx, Option.bind_eq_some_iff] at h; done) | (split at h <;> first | (cases h; done) | (simp [am_nx, Option.bind_eq_some_iff] at h; done) | (split at h <;> first | (cases h; done) | (simp [am_nx, Option.bind_eq_some_iff] at h; done) | (split at h <;> first | (cases h; done) | (simp [am_nx, Option.bind_eq_some_iff] at h; done))))))
  · -- iaload
    first | (cases h; done) | (simp [am_nx, Option.bind_eq_some_iff] at h; done) | (split at h <;> first | (cases h; done) | (simp [am_nx, Option.bind_eq_some_iff] at h; done) | (split at h <;> first | (cases h; done) | (simp [am_nx, Option.bind_eq_some_iff] at h; done) | (split at h <;> first | (cases h; done) | (simp [am_nx, Option.bind_eq_some_iff] at h; done) | (split at h <;> first | (cases h; done) | (simp [am_nx, Option.bind_eq_some_iff] at h; done) | (split at h <;> first | (cases h; done) | (simp [am_nx, Option.bind_eq_some_iff] at h; done))))))
  · -- baload
    first | (cases h; done) | (simp [am_nx, Option.bind_eq_some_iff] at h; done) | (split at h <;> first | (cases h; done) | (simp [am_nx, Option.bind_eq_some_iff] at h; done) | (split at h <;> first | (cases h; done) | (simp [am_nx, Option.bind_eq_some_iff] at h; done) | (split at h <;> first | (cases h; done) | (simp [am_nx, Option.bind_eq_some_iff] at h; done) | (split at h <;> first | (cases h; done) | (simp [am_nx, Option.bind_eq_some_iff] at h; done) | (split at h <;> first | (cases h; done) | (simp [am_nx, Option.bind_eq_some_iff] at h; done))))))
  · -- laload
    first | (cases h; done) | (simp [am_nx, Option.bind_eq_some_iff] at h; done) | (split at h <;> first | (cases h; done) | (simp [am_nx, Option.bind_eq_some_iff] at h; done) | (split at h <;> first | (cases h; done) | (simp [am_nx, Option.bind_eq_some_iff] at h; done) | (split at h <;> first | (cases h; done) | (simp [am_nx, Option.bind_eq_some_iff] at h; done) | (split at h <;> first | (cases h; done) | (simp [am_nx, Option.bind_eq_some_iff] at h; done) | (split at h <;> first | (cases h; done) | (simp [am_nx, Option.bind_eq_some_iff] at h; done))))))
  · -- aaload
    first | (cases h; done) | (simp [am_nx, Option.bind_eq_some_iff] at h; done) | (split at h <;> first | (cases h; done) | (simp [am_nx, Option.bind_eq_some_iff] at h; done) | (split at h <;> first | (cases h; done) | (simp [am_nx, Option.bind_eq_some_iff] at h; done) | (split at h <;> first | (cases h; done) | (simp [am_nx, Option.bind_eq_some_iff] at h; done) | (split at h <;> first | (cases h; done) | (simp [am_nx, Option.bind_eq_some_iff] at h; done) | (split at h <;> first | (cases h; done) | (simp [am_nx, Option.bind_eq_some_iff] at h; done))))))
  · -- iastore
    first | (cases h; done) | (simp [am_nx, Option.bind_eq_some_iff] at h; done) | (split at h <;> first | (cases h; done) | (simp [am_nx, Option.bind_eq_some_iff] at h; done) | (split at h <;> first | (cases h; done) | (simp [am_nx, Option.bind_eq_some_iff] at h; done) | (split at h <;> first | (cases h; done) | (simp [am_nx, Option.bind_eq_some_iff] at h; done) | (split at h <;> first | (cases h; done) | (simp [am_nx, Option.bind_eq_some_iff] at h; done) | (split at h <;> first | (cases h; done) | (simp [am_nx, Option.bind_eq_some_iff] at h; done))))))
  · -- bastore
    first | (cases h; done) | (simp [am_nx, Option.bind_eq_some_iff] at h; done) | (split at h <;> first | (cases h; done) | (simp [am_nx, Option.bind_eq_some_iff] at h; done) | (split at h <;> first | (cases h; done) | (simp [am_nx, Option.bind_eq_some_iff] at h; done) | (split at h <;> first | (cases h; done) | (simp [am_nx, Option.bind_eq_some_iff] at h; done) | (split at h <;> first | (cases h; done) | (simp [am_nx, Option.bind_eq_some_iff] at h; done) | (split at h <;> first | (cases h; done) | (simp [am_nx, Option.bind_eq_some_iff] at h; done))))))
  · -- lastore
    first | (cases h; done) | (simp [am_nx, Option.bind_eq_some_iff] at h; done) | (split at h <;> first | (cases h; done) | (simp [am_nx, Option.bind_eq_some_iff] at h; done) | (split at h <;> first | (cases h; done) | (simp [am_nx, Option.bind_eq_some_iff] at h; done) | (split at h <;> first | (cases h; done) | (simp [am_nx, Option.bind_eq_some_iff] at h; done) | (split at h <;> first | (cases h; done) | (simp [am_nx, Option.bind_eq_some_iff] at h; done) | (split at h <;> first | (cases h; done) | (simp [am_nx, Option.bind_eq_some_iff] at h; done))))))
  · -- aastore
    first | (cases h; done) | (simp [am_nx, Option.bind_eq_some_iff] at h; done) | (split at h <;> first | (cases h; done) | (simp [am_nx, Option.bind_eq_some_iff] at h; done) | (split at h <;> first | (cases h; done) | (simp [am_nx, Option.bind_eq_some_iff] at h; done) | (split at h <;> first | (cases h; done) | (simp [am_nx, Option.bind_eq_some_iff] at h; done) | (split at h <;> first | (cases h; done) | (simp [am_nx, Option.bind_eq_some_iff] at h; done) | (split at h <;> first | (cases h; done) | (simp [am_nx, Option.bind_eq_some_iff] at h; done))))))
  · -- arraylength
    first | (cases h; done) | (simp [am_nx, Option.bind_eq_some_iff] at h; done) | (split at h <;> first | (cases h; done) | (simp [am_nx, Option.bind_eq_some_iff] at h; done) | (split at h <;> first | (cases h; done) | (simp [am_nx, Option.bind_eq_some_iff] at h; done) | (split at h <;> first | (cases h; done) | (simp [am_nx, Option.bind_eq_some_iff] at h; done) | (split at h <;> first | (cases h; done) | (simp [am_nx, Option.bind_eq_some_iff] at h; done) | (split at h <;> first | (cases h; done) | (simp [am_nx, Option.bind_eq_some_iff] at h; done))))))
  · -- newarray
    first | (cases h; done) | (simp [am_nx, Option.bind_eq_some_iff] at h; done) | (split at h <;> first | (cases h; done) | (simp [am_nx, Option.bind_eq_some_iff] at h; done) | (split at h <;> first | (cases h; done) | (simp [am_nx, Option.bind_eq_some_iff] at h; done) | (split at h <;> first | (cases h; done) | (simp [am_nx, Option.bind_eq_some_iff] at h; done) | (split at h <;> first | (cases h; done) | (simp [am_nx, Option.bind_eq_some_iff] at h; done) | (split at h <;> first | (cases h; done) | (simp [am_nx, Option.bind_eq_some_iff] at h; done))))))
  · -- anewarray
    first | (cases h; done) | (simp [am_nx, Option.bind_eq_some_iff] at h; done) | (split at h <;> first | (cases h; done) | (simp [am_nx, Option.bind_eq_some_iff] at h; done) | (split at h <;> first | (cases h; done) | (simp [am_nx, Option.bind_eq_some_iff] at h; done) | (split at h <;> first | (cases h; done) | (simp [am_nx, Option.bind_eq_some_iff] at h; done) | (split at h <;> first | (cases h; done) | (simp [am_nx, Option.bind_eq_some_iff] at h; done) | (split at h <;> first | (cases h; done) | (simp [am_nx, Option.bind_eq_some_iff] at h; done))))))
  · -- multianewarray
    first | (cases h; done) | (simp [am_nx, Option.bind_eq_some_iff] at h; done) | (split at h <;> first | (cases h; done) | (simp [am_nx, Option.bind_eq_some_iff] at h; done) | (split at h <;> first | (cases h; done) | (simp [am_nx, Option.bind_eq_some_iff] at h; done) | (split at h <;> first | (cases h; done) | (simp [am_nx, Option.bind_eq_some_iff] at h; done) | (split at h <;> first | (cases h; done) | (simp [am_nx, Option.bind_eq_some_iff] at h; done) | (split at h <;> first | (cases h; done) | (simp [am_nx, Option.bind_eq_some_iff] at h; done))))))
  · -- new
    split at h
    · cases h
    · rename_i k z r0 hk0
      split at h
      · have e9 : r = (.inr (am_xn z), am_jk w 1 6) := (Sum.inr.inj (Sum.inr.inj (Option.some.inj h))).symm
        subst e9
        intro E hE
        cases hE
        unfold am_xn
        split
        · decide
        · split <;> decide
      · cases h
    · cases h
  · -- checkcast
    first | (cases h; done) | (simp [am_nx, Option.bind_eq_some_iff] at h; done) | (split at h <;> first | (cases h; done) | (simp [am_nx, Option.bind_eq_some_iff] at h; done) | (split at h <;> first | (cases h; done) | (simp [am_nx, Option.bind_eq_some_iff] at h; done) | (split at h <;> first | (cases h; done) | (simp [am_nx, Option.bind_eq_some_iff] at h; done) | (split at h <;> first | (cases h; done) | (simp [am_nx, Option.bind_eq_some_iff] at h; done) | (split at h <;> first | (cases h; done) | (simp [am_nx, Option.bind_eq_some_iff] at h; done))))))
  · -- instanceof
    first | (cases h; done) | (simp [am_nx, Option.bind_eq_some_iff] at h; done) | (split at h <;> first | (cases h; done) | (simp [am_nx, Option.bind_eq_some_iff] at h; done) | (split at h <;> first | (cases h; done) | (simp [am_nx, Option.bind_eq_some_iff] at h; done) | (split at h <;> first | (cases h; done) | (simp [am_nx, Option.bind_eq_some_iff] at h; done) | (split at h <;> first | (cases h; done) | (simp [am_nx, Option.bind_eq_some_iff] at h; done) | (split at h <;> first | (cases h; done) | (simp [am_nx, Option.bind_eq_some_iff] at h; done))))))
  · -- invokevirtual
    first | (cases h; done) | (simp [am_nx, Option.bind_eq_some_iff] at h; done) | (split at h <;> first | (cases h; done) | (simp [am_nx, Option.bind_eq_some_iff] at h; done) | (split at h <;> first | (cases h; done) | (simp [am_nx, Option.bind_eq_some_iff] at h; done) | (split at h <;> first | (cases h; done) | (simp [am_nx, Option.bind_eq_some_iff] at h; done) | (split at h <;> first | (cases h; done) | (simp [am_nx, Option.bind_eq_some_iff] at h; done) | (split at h <;> first | (cases h; done) | (simp [am_nx, Option.bind_eq_some_iff] at h; done))))))
  · -- invokeinterface
    first | (cases h; done) | (simp [am_nx, Option.bind_eq_some_iff] at h; done) | (split at h <;> first | (cases h; done) | (simp [am_nx, Option.bind_eq_some_iff] at h; done) | (split at h <;> first | (cases h; done) | (simp [am_nx, Option.bind_eq_some_iff] at h; done) | (split at h <;> first | (cases h; done) | (simp [am_nx, Option.bind_eq_some_iff] at h; done) | (split at h <;> first | (cases h; done) | (simp [am_nx, Option.bind_eq_some_iff] at h; done) | (split at h <;> first | (cases h; done) | (simp [am_nx, Option.bind_eq_some_iff] at h; done))))))
  · -- invokespecial
    first | (cases h; done) | (simp [am_nx, Option.bind_eq_some_iff] at h; done) | (split at h <;> first | (cases h; done) | (simp [am_nx, Option.bind_eq_some_iff] at h; done) | (split at h <;> first | (cases h; done) | (simp [am_nx, Option.bind_eq_some_iff] at h; done) | (split at h <;> first | (cases h; done) | (simp [am_nx, Option.bind_eq_some_iff] at h; done) | (split at h <;> first | (cases h; done) | (simp [am_nx, Option.bind_eq_some_iff] at h; done) | (split at h <;> first | (cases h; done) | (simp [am_nx, Option.bind_eq_some_iff] at h; done))))))
  · -- invokestatic
    first | (cases h; done) | (simp [am_nx, Option.bind_eq_some_iff] at h; done) | (split at h <;> first | (cases h; done) | (simp [am_nx, Option.bind_eq_some_iff] at h; done) | (split at h <;> first | (cases h; done) | (simp [am_nx, Option.bind_eq_some_iff] at h; done) | (split at h <;> first | (cases h; done) | (simp [am_nx, Option.bind_eq_some_iff] at h; done) | (split at h <;> first | (cases h; done) | (simp [am_nx, Option.bind_eq_some_iff] at h; done) | (split at h <;> first | (cases h; done) | (simp [am_nx, Option.bind_eq_some_iff] at h; done))))))
  · -- ireturn
    split at h
    · skip
      split at h
      · skip
        split at h
        · skip
          intro E hE
          have e9 := (Sum.inr.inj (Sum.inr.inj (Option.some.inj h)))
          rw [← e9] at hE
          cases hE
        · cases h
      · cases h
    · cases h
  · -- lreturn
    split at h
    · skip
      intro E hE
      have e9 := (Sum.inr.inj (Sum.inr.inj (Option.some.inj h)))
      rw [← e9] at hE
      cases hE
    · cases h
  · -- dreturn
    split at h
    · skip
      intro E hE
      have e9 := (Sum.inr.inj (Sum.inr.inj (Option.some.inj h)))
      rw [← e9] at hE
      cases hE
    · cases h
  · -- areturn
    split at h
    · skip
      intro E hE
      have e9 := (Sum.inr.inj (Sum.inr.inj (Option.some.inj h)))
      rw [← e9] at hE
      cases hE
    · cases h
  · -- return_
    split at h
    · skip
      intro E hE
      have e9 := (Sum.inr.inj (Sum.inr.inj (Option.some.inj h)))
      rw [← e9] at hE
      cases hE
    · cases h
  · -- ELSE
    first | (cases h; done) | (simp [am_nx, Option.bind_eq_some_iff] at h; done) | (split at h <;> first | (cases h; done) | (simp [am_nx, Option.bind_eq_some_iff] at h; done) | (split at h <;> first | (cases h; done) | (simp [am_nx, Option.bind_eq_some_iff] at h; done) | (split at h <;> first | (cases h; done) | (simp [am_nx, Option.bind_eq_some_iff] at h; done) | (split at h <;> first | (cases h; done) | (simp [am_nx, Option.bind_eq_some_iff] at h; done) | (split at h <;> first | (cases h; done) | (simp [am_nx, Option.bind_eq_some_iff] at h; done))))))
theorem am_thr : ∀ (n m pc : Nat) (ls : am_Lc) (st : List Value) (w : am_Wd) (r : am_Out × am_Wd), am_runN n m pc ls st w = some r → ∀ E, r.1 = .inr E → E ∈ am_exn := by
  intro n
  induction n with
  | zero => intro m pc ls st w r h; cases h
  | succ n ih =>
    intro m pc ls st w r h
    rw [am_runN] at h
    split at h
    · cases h
    · split at h
      · cases h
      · split at h
        · exact ih _ _ _ _ _ _ h
        · cases h
      · split at h
        · split at h
          · cases h
          · rename_i r1 hr1
            split at h
            · exact ih _ _ _ _ _ _ h
            · split at h
              · cases h; exact ih _ _ _ _ _ _ hr1
              · exact ih _ _ _ _ _ _ h
        · cases h
      · rename_i hs
        split at h
        · cases h; exact am_stp_thr hs
        · cases h
theorem am_lkS0 {m x k m' n : Nat} {r : List Nat} (h1 : k ≠ 1) (h2 : k ≠ 2) (h3 : k ≠ 3) (h4 : k ≠ 4) (h : am_lkS m x (k :: m' :: n :: r) = true) : ∃ p p1 p2 : Nat, (am_cal m' n && am_lw (.static (am_yy m')) p1 && am_lw (.initialized (am_ow m')) p2 && (am_lw (.methodLink (am_ow m) x (am_yy m')) p || (decide (am_hh m' = []) && am_hosts.any (fun h => am_ln (.methodLinkNest (am_ow m) x (am_yy m') h) p)))) = true := by
  match k, r, h with
  | 0, p :: p1 :: p2 :: t, h => exact ⟨p, p1, p2, h⟩
  | 0, [], h => cases h
  | 0, [_], h => cases h
  | 0, [_, _], h => cases h
  | 1, _, _ => exact absurd rfl h1
  | 2, _, _ => exact absurd rfl h2
  | 3, _, _ => exact absurd rfl h3
  | 4, _, _ => exact absurd rfl h4
  | k + 5, _, h => simp [am_lkS] at h
theorem am_lkP0 {m x k m' n : Nat} {r : List Nat} (h1 : k ≠ 1) (h2 : k = 2 → r = []) (h : am_lkP m x (k :: m' :: n :: r) = true) : ∃ p p1 p2 : Nat, (am_cal m' n && decide ((am_yy m').name = "<init>" ∧ am_hh m' = [] ∧ am_ry m' = none) && am_lw (.instanceMethod (am_yy m')) p1 && am_lw (.initialized (am_ow m')) p2 && (am_lw (.methodLink (am_ow m) x (am_yy m')) p || am_hosts.any (fun h => am_ln (.methodLinkNest (am_ow m) x (am_yy m') h) p))) = true := by
  match k, r, h with
  | 0, p :: p1 :: p2 :: t, h => exact ⟨p, p1, p2, h⟩
  | 0, [], h => cases h
  | 0, [_], h => cases h
  | 0, [_, _], h => cases h
  | 1, _, _ => exact absurd rfl h1
  | 2, [], h => cases h
  | 2, _ :: _, _ => exact absurd (h2 rfl) (by simp)
  | k + 3, _, h => simp [am_lkP] at h
theorem am_lkP2 {m x m' n ci : Nat} {r : List Nat} (h : am_lkP m x (2 :: m' :: n :: ci :: r) = true) : ∃ p p1 p2 p3 p4 : Nat, (decide (ci < 12) && am_cal m' n && decide ((am_yy m').name ≠ "<init>" ∧ am_hh m' = []) && am_lw (.methodLink (am_ow m) x (am_yy m')) p && am_lw (.sameMethod (am_ow m') (am_ow m') (am_yy m').name (am_yy m').desc) p1 && am_lw (.superclass (am_ow m) (am_ow m')) p2 && am_lw (.instanceMethod (am_yy m')) p3 && am_lw (.initialized (am_ow m')) p4) = true := by
  match r, h with
  | p :: p1 :: p2 :: p3 :: p4 :: t, h => exact ⟨p, p1, p2, p3, p4, h⟩
  | [], h => cases h
  | [_], h => cases h
  | [_, _], h => cases h
  | [_, _, _], h => cases h
  | [_, _, _, _], h => cases h
theorem am_lkV0 {m x k m' n ci : Nat} {r : List Nat} (h1 : k ≠ 1) (h : am_lkV m x (k :: m' :: n :: ci :: r) = true) : ∃ (C : String) (T : u_T) (N : Nat), am_cl[ci]? = some (C, T, N) ∧ ((∃ p p1 p2 p3 : Nat, (am_cal m' n && decide (am_ow m' = C ∧ am_hh m' = []) && am_lw (.methodLink (am_ow m) x (am_yy m')) p && am_lw (.instanceMethod (am_yy m')) p1 && am_lw (.selects C (am_yy m') (am_yy m')) p2 && am_lw (.initialized C) p3) = true) ∨
    (∃ p p1 p2 p3 p4 : Nat, (am_cal m' n && decide (am_hh m' = []) && am_lw (.methodLink (am_ow m) x (am_yy m')) p && am_lw (.sameMethod (am_ow m') (am_ow m') (am_yy m').name (am_yy m').desc) p1 && am_lw (.selects C (am_yy m') (am_yy m')) p2 && am_lw (.instanceMethod (am_yy m')) p3 && am_lw (.initialized (am_ow m')) p4) = true) ∨
    (∃ p p1 p2 p3 p4 p5 j : Nat, (am_cal m' n && decide (am_hh m' = []) && am_lw (.methodLink (am_ow m) x ⟨"java/lang/AbstractStringBuilder", (am_yy m').name, (am_yy m').desc⟩) p && am_lw (.sameMethod "java/lang/AbstractStringBuilder" "java/lang/AbstractStringBuilder" (am_yy m').name (am_yy m').desc) p1 && am_lw (.instanceMethod ⟨"java/lang/AbstractStringBuilder", (am_yy m').name, (am_yy m').desc⟩) p2 && am_lw (.selects C ⟨"java/lang/AbstractStringBuilder", (am_yy m').name, (am_yy m').desc⟩ (am_yy m')) p3 && am_lw (.instanceMethod (am_yy m')) p4 && am_lw (.initialized (am_ow m')) p5 && decide (am_yy j = ⟨"java/lang/AbstractStringBuilder", (am_yy m').name, (am_yy m').desc⟩ ∧ am_hh j = []) && am_lw (am_cw j) (am_cp j)) = true)) := by
  match k, r, h with
  | 0, p :: p1 :: p2 :: p3 :: t, h =>
    have h : (match am_cl[ci]? with | some (C, _, _) => am_cal m' n && decide (am_ow m' = C ∧ am_hh m' = []) && am_lw (.methodLink (am_ow m) x (am_yy m')) p && am_lw (.instanceMethod (am_yy m')) p1 && am_lw (.selects C (am_yy m') (am_yy m')) p2 && am_lw (.initialized C) p3 | none => false) = true := h
    split at h
    · rename_i C T N hcl; exact ⟨C, T, N, hcl, Or.inl ⟨p, p1, p2, p3, h⟩⟩
    · cases h
  | 0, [], h => cases h
  | 0, [_], h => cases h
  | 0, [_, _], h => cases h
  | 0, [_, _, _], h => cases h
  | 1, _, _ => exact absurd rfl h1
  | 2, p :: p1 :: p2 :: p3 :: p4 :: t, h =>
    have h : (match am_cl[ci]? with | some (C, _, _) => am_cal m' n && decide (am_hh m' = []) && am_lw (.methodLink (am_ow m) x (am_yy m')) p && am_lw (.sameMethod (am_ow m') (am_ow m') (am_yy m').name (am_yy m').desc) p1 && am_lw (.selects C (am_yy m') (am_yy m')) p2 && am_lw (.instanceMethod (am_yy m')) p3 && am_lw (.initialized (am_ow m')) p4 | none => false) = true := h
    split at h
    · rename_i C T N hcl; exact ⟨C, T, N, hcl, Or.inr (Or.inl ⟨p, p1, p2, p3, p4, h⟩)⟩
    · cases h
  | 2, [], h => cases h
  | 2, [_], h => cases h
  | 2, [_, _], h => cases h
  | 2, [_, _, _], h => cases h
  | 2, [_, _, _, _], h => cases h
  | 3, p :: p1 :: p2 :: p3 :: p4 :: p5 :: j :: t, h =>
    have h : (match am_cl[ci]? with | some (C, _, _) => am_cal m' n && decide (am_hh m' = []) && am_lw (.methodLink (am_ow m) x ⟨"java/lang/AbstractStringBuilder", (am_yy m').name, (am_yy m').desc⟩) p && am_lw (.sameMethod "java/lang/AbstractStringBuilder" "java/lang/AbstractStringBuilder" (am_yy m').name (am_yy m').desc) p1 && am_lw (.instanceMethod ⟨"java/lang/AbstractStringBuilder", (am_yy m').name, (am_yy m').desc⟩) p2 && am_lw (.selects C ⟨"java/lang/AbstractStringBuilder", (am_yy m').name, (am_yy m').desc⟩ (am_yy m')) p3 && am_lw (.instanceMethod (am_yy m')) p4 && am_lw (.initialized (am_ow m')) p5 && decide (am_yy j = ⟨"java/lang/AbstractStringBuilder", (am_yy m').name, (am_yy m').desc⟩ ∧ am_hh j = []) && am_lw (am_cw j) (am_cp j) | none => false) = true := h
    split at h
    · rename_i C T N hcl; exact ⟨C, T, N, hcl, Or.inr (Or.inr ⟨p, p1, p2, p3, p4, p5, j, h⟩)⟩
    · cases h
  | 3, [], h => cases h
  | 3, [_], h => cases h
  | 3, [_, _], h => cases h
  | 3, [_, _, _], h => cases h
  | 3, [_, _, _, _], h => cases h
  | 3, [_, _, _, _, _], h => cases h
  | 3, [_, _, _, _, _, _], h => cases h
  | k + 4, _, h => simp [am_lkV] at h
theorem am_lkF0 {m x k m' n ci : Nat} {r : List Nat} (h : am_lkF m x (k :: m' :: n :: ci :: r) = true) : ∃ (C : String) (T : u_T) (N : Nat), am_cl[ci]? = some (C, T, N) ∧ ∃ p p1 p2 p3 : Nat, (am_cal m' n && decide (am_hh m' = []) && am_ifs.any (fun q => decide (q.1 = C ∧ q.2.2 = am_yy m') && am_lw (.methodLink (am_ow m) x q.2.1) p && am_lw (.selects C q.2.1 (am_yy m')) p1 && am_lw (.instanceMethod (am_yy m')) p2 && am_lw (.initialized (am_ow m')) p3)) = true := by
  match k, r, h with
  | 0, p :: p1 :: p2 :: p3 :: t, h =>
    have h : (match am_cl[ci]? with | some (C, _, _) => am_cal m' n && decide (am_hh m' = []) && am_ifs.any (fun q => decide (q.1 = C ∧ q.2.2 = am_yy m') && am_lw (.methodLink (am_ow m) x q.2.1) p && am_lw (.selects C q.2.1 (am_yy m')) p1 && am_lw (.instanceMethod (am_yy m')) p2 && am_lw (.initialized (am_ow m')) p3) | none => false) = true := h
    split at h
    · rename_i C T N hcl; exact ⟨C, T, N, hcl, p, p1, p2, p3, h⟩
    · cases h
  | 0, [], h => cases h
  | 0, [_], h => cases h
  | 0, [_, _], h => cases h
  | 0, [_, _, _], h => cases h
  | k + 1, _, h => simp [am_lkF] at h
