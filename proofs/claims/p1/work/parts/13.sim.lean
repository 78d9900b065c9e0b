/-! am_sim: what the abstract machine comes to, the machine comes to. Mine. -/
section AMU
variable {p : Program} {l : Launch} {e : Env} {R : Room} {s : State} {m : MethodId} {args : Array Value} {below : List Frame} {meth : Method} {c : Code} {H : Heap} {locs : List Loc} {cells slots : Nat} {Q : State → Prop}
variable {pc : Nat} {lsA : Array Slot} {D : va_G} {dA : Nat → ClassId} {base : Nat} {sg : am_Sg} {y : Nat} {st0 rest : List Value} {a : Array Value} {mc ms : Nat}
theorem am_cont5 {r1 : am_Out × am_Wd} (hr : vx_Run5 p l e R s m args below meth c H locs cells slots mc ms (F0 m pc lsA st0) rest (am_Qc D dA base sg r1 a) (am_XC D dA base sg r1) (am_A base)) (hS : va_S (am_A base) s.heap H locs)
    (hkv : ∀ v : Option Value, r1.1 = .inl v → ∀ (H' : Heap) (locs' : List Loc), am_WR D dA base sg r1.2 H' → va_S (am_A base) s.heap H' locs' → W p l e R s m args below meth c H' locs' (cells + mc) (slots + ms) Q (F0 m (pc + 5) lsA (v.toList ++ rest)))
    (hkx : ∀ E : String, r1.1 = .inr E → ∀ (H' : Heap) (locs' : List Loc) (q : Addr) (ce : Cell), am_WR D dA base sg r1.2 H' → va_S (am_A base) s.heap H' locs' → H'[q]? = some ce → ce.vm = .none → s.vm.findClass E = some ce.cls → vx_W p l e R s m args below meth c H' locs' (cells + mc) (slots + ms) Q (F0 m pc lsA rest) q) :
    W p l e R s m args below meth c H locs cells slots Q (F0 m pc lsA st0) := by
  intro T hT X
  rcases hr T hT X with ⟨v, st₀, t, T', L, h0, X', hL, e1, e2, ⟨⟨v', hv1, hv2⟩, hWR, hF⟩, st⟩ | ⟨q, st₀, t, T', L, E, ce, h0, X', hL, e1, e2, ⟨hv1, hWR, hF⟩, hce, hcv, hcl, st⟩
  · cases hv2
    obtain ⟨k1, k2, k3⟩ := vx_keep h0 e1 hS (fun q _ h => h) (fun q h => h) hL hF
    obtain ⟨t2, a1, b1⟩ := hkv v hv1 T'.heap (locs ++ L) (by rw [e1]; exact hWR) k3 T' rfl X'
    exact ⟨t2, st t2 a1, b1⟩
  · obtain ⟨k1, k2, k3⟩ := vx_keep h0 e1 hS (fun q _ h => h) (fun q h => h) hL hF
    obtain ⟨t2, a1, b1⟩ := hkx E hv1 T'.heap (locs ++ L) q ce (by rw [e1]; exact hWR) k3 (by rw [e1]; exact hce) hcv hcl T' rfl X'
    exact ⟨t2, st.trans a1, b1⟩
set_option maxHeartbeats 8000000 in
set_option maxRecDepth 100000 in
theorem am_calls (C0 : am_Cx p l R s m args meth c D dA base sg y) {i : Instr} {len : Nat} {an : List Nat} (hdc : decode (am_by y) pc = .ok (i, len)) (hln : am_isw i = false → len = am_il i) (hlk : am_lk y i an = true) {ls : am_Lc} {st : List Value} {w : am_Wd} {k : Nat × List Value × Nat × List Value} (h : am_stp pc i an ls st w = some (.inr (.inl k)))
    (hl : am_LH lsA (am_ml y) ls) (hw : am_WR D dA base sg w H) (hS : va_S (am_A base) s.heap H locs) (hg : am_hg k.1 < am_hg y) {r1 : am_Out × am_Wd}
    (hM : plainName (am_ow k.1) = true → vx_Met l (am_yy k.1) (am_wsy k.1) (am_rm k.1 (r1.2.2.1 - w.2.1) (r1.2.2.2.1 - w.2.2.1)) (am_Pc D dA base sg k.2.1 w) (am_Qc D dA base sg r1) (am_XC D dA base sg r1) (r1.2.2.1 - w.2.1) (r1.2.2.2.1 - w.2.2.1) (am_A base))
    (hR : cells + (r1.2.2.1 - w.2.1) ≤ R.cells ∧ slots + (r1.2.2.2.1 - w.2.2.1) ≤ R.slots)
    (hkv : ∀ v : Option Value, r1.1 = .inl v → ∀ (H' : Heap) (locs' : List Loc), am_WR D dA base sg r1.2 H' → va_S (am_A base) s.heap H' locs' → W p l e R s m args below meth c H' locs' (cells + (r1.2.2.1 - w.2.1)) (slots + (r1.2.2.2.1 - w.2.2.1)) Q (F0 m k.2.2.1 lsA (v.toList ++ k.2.2.2)))
    (hkx : ∀ E : String, r1.1 = .inr E → ∀ (H' : Heap) (locs' : List Loc) (q : Addr) (ce : Cell), am_WR D dA base sg r1.2 H' → va_S (am_A base) s.heap H' locs' → H'[q]? = some ce → ce.vm = .none → s.vm.findClass E = some ce.cls → vx_W p l e R s m args below meth c H' locs' (cells + (r1.2.2.1 - w.2.1)) (slots + (r1.2.2.2.1 - w.2.2.1)) Q (F0 m pc lsA k.2.2.2) q) :
    W p l e R s m args below meth c H locs cells slots Q (F0 m pc lsA st) := by
  unfold am_stp at h
  split at h
  · -- iconst
    first | (cases h; done) | (simp [am_nx, Option.bind_eq_some_iff] at h; done) | (split at h <;> first | (cases h; done) | (simp [am_nx, Option.bind_eq_some_iff] at h; done) | (split at h <;> first | (cases h; done) | (simp [am_nx, Option.bind_eq_some_iff] at h; done) | (split at h <;> first | (cases h; done) | (simp [am_nx, Option.bind_eq_some_iff] at h; done) | (split at h <;> first | (cases h; done) | (simp [am_nx, Option.bind_eq_some_iff] at h; done) | (split at h <;> first | (cases h; done) | (simp [am_nx, Option.bind_eq_some_iff] at h; done))))))
  · -- bipush
    first | (cases h; done) | (simp [am_nx, Option.bind_eq_some_iff] at h; done) | (split at h <;> first | (cases h; done) | (simp [am_nx, Option.bind_eq_some_iff] at h; done) | (split at h <;> first | (cases h; done) | (simp [am_nx, Option.bind_eq_some_iff] at h; done) | (split at h <;> first | (cases h; done) | (simp [am_nx, Option.bind_eq_some_iff] at h; done) | (split at h <;> first | (cases h; done) | (simp [am_nx, Option.bind_eq_some_iff] at h; done) | (split at h <;> first | (cases h; done) | (simp [am_nx, Option.bind_eq_some_iff] at h; done))))))
  · -- sipush
    first | (cases h; done) | (simp [am_nx, Option.bind_eq_some_iff] at h; done) | (split at h <;> first | (cases h; done) | (simp [am_nx, Option.bind_eq_some_iff] at h; done) | (split at h <;> first | (cases h; done) | (simp [am_nx, Option.bind_eq_some_iff] at h; done) | (split at h <;> first | (cases h; done) | (simp [am_nx, Option.bind_eq_some_iff] at h; done) | (split at h <;> first | (cases h; done) | (simp [am_nx, Option.bind_eq_some_iff] at h; done) | (split at h <;> first | (cases h; done) | (simp [am_nx, Option.bind_eq_some_iff] at h; done))))))
  · -- lconst
    first | (cases h; done) | (simp [am_nx, Option.bind_eq_some_iff] at h; done) | (split at h <;> first | (cases h; done) | (simp [am_nx, Option.bind_eq_some_iff] at h; done) | (split at h <;> first | (cases h; done) | (simp [am_nx, Option.bind_eq_some_iff] at h; done) | (split at h <;> first | (cases h; done) | (simp [am_nx, Option.bind_eq_some_iff] at h; done) | (split at h <;> first | (cases h; done) | (simp [am_nx, Option.bind_eq_some_iff] at h; done) | (split at h <;> first | (cases h; done) | (simp [am_nx, Option.bind_eq_some_iff] at h; done))))))
  · -- dconst
    first | (cases h; done) | (simp [am_nx, Option.bind_eq_some_iff] at h; done) | (split at h <;> first | (cases h; done) | (simp [am_nx, Option.bind_eq_some_iff] at h; done) | (split at h <;> first | (cases h; done) | (simp [am_nx, Option.bind_eq_some_iff] at h; done) | (split at h <;> first | (cases h; done) | (simp [am_nx, Option.bind_eq_some_iff] at h; done) | (split at h <;> first | (cases h; done) | (simp [am_nx, Option.bind_eq_some_iff] at h; done) | (split at h <;> first | (cases h; done) | (simp [am_nx, Option.bind_eq_some_iff] at h; done))))))
  · -- aconst_null
    first | (cases h; done) | (simp [am_nx, Option.bind_eq_some_iff] at h; done) | (split at h <;> first | (cases h; done) | (simp [am_nx, Option.bind_eq_some_iff] at h; done) | (split at h <;> first | (cases h; done) | (simp [am_nx, Option.bind_eq_some_iff] at h; done) | (split at h <;> first | (cases h; done) | (simp [am_nx, Option.bind_eq_some_iff] at h; done) | (split at h <;> first | (cases h; done) | (simp [am_nx, Option.bind_eq_some_iff] at h; done) | (split at h <;> first | (cases h; done) | (simp [am_nx, Option.bind_eq_some_iff] at h; done))))))
  · -- ldc
    first | (cases h; done) | (simp [am_nx, Option.bind_eq_some_iff] at h; done) | (split at h <;> first | (cases h; done) | (simp [am_nx, Option.bind_eq_some_iff] at h; done) | (split at h <;> first | (cases h; done) | (simp [am_nx, Option.bind_eq_some_iff] at h; done) | (split at h <;> first | (cases h; done) | (simp [am_nx, Option.bind_eq_some_iff] at h; done) | (split at h <;> first | (cases h; done) | (simp [am_nx, Option.bind_eq_some_iff] at h; done) | (split at h <;> first | (cases h; done) | (simp [am_nx, Option.bind_eq_some_iff] at h; done))))))
  · -- ldc_w
    first | (cases h; done) | (simp [am_nx, Option.bind_eq_some_iff] at h; done) | (split at h <;> first | (cases h; done) | (simp [am_nx, Option.bind_eq_some_iff] at h; done) | (split at h <;> first | (cases h; done) | (simp [am_nx, Option.bind_eq_some_iff] at h; done) | (split at h <;> first | (cases h; done) | (simp [am_nx, Option.bind_eq_some_iff] at h; done) | (split at h <;> first | (cases h; done) | (simp [am_nx, Option.bind_eq_some_iff] at h; done) | (split at h <;> first | (cases h; done) | (simp [am_nx, Option.bind_eq_some_iff] at h; done))))))
  · -- ldc2_w
    first | (cases h; done) | (simp [am_nx, Option.bind_eq_some_iff] at h; done) | (split at h <;> first | (cases h; done) | (simp [am_nx, Option.bind_eq_some_iff] at h; done) | (split at h <;> first | (cases h; done) | (simp [am_nx, Option.bind_eq_some_iff] at h; done) | (split at h <;> first | (cases h; done) | (simp [am_nx, Option.bind_eq_some_iff] at h; done) | (split at h <;> first | (cases h; done) | (simp [am_nx, Option.bind_eq_some_iff] at h; done) | (split at h <;> first | (cases h; done) | (simp [am_nx, Option.bind_eq_some_iff] at h; done))))))
  · -- iload
    first | (cases h; done) | (simp [am_nx, Option.bind_eq_some_iff] at h; done) | (split at h <;> first | (cases h; done) | (simp [am_nx, Option.bind_eq_some_iff] at h; done) | (split at h <;> first | (cases h; done) | (simp [am_nx, Option.bind_eq_some_iff] at h; done) | (split at h <;> first | (cases h; done) | (simp [am_nx, Option.bind_eq_some_iff] at h; done) | (split at h <;> first | (cases h; done) | (simp [am_nx, Option.bind_eq_some_iff] at h; done) | (split at h <;> first | (cases h; done) | (simp [am_nx, Option.bind_eq_some_iff] at h; done))))))
  · -- iload_n
    first | (cases h; done) | (simp [am_nx, Option.bind_eq_some_iff] at h; done) | (split at h <;> first | (cases h; done) | (simp [am_nx, Option.bind_eq_some_iff] at h; done) | (split at h <;> first | (cases h; done) | (simp [am_nx, Option.bind_eq_some_iff] at h; done) | (split at h <;> first | (cases h; done) | (simp [am_nx, Option.bind_eq_some_iff] at h; done) | (split at h <;> first | (cases h; done) | (simp [am_nx, Option.bind_eq_some_iff] at h; done) | (split at h <;> first | (cases h; done) | (simp [am_nx, Option.bind_eq_some_iff] at h; done))))))
  · -- lload
    first | (cases h; done) | (simp [am_nx, Option.bind_eq_some_iff] at h; done) | (split at h <;> first | (cases h; done) | (simp [am_nx, Option.bind_eq_some_iff] at h; done) | (split at h <;> first | (cases h; done) | (simp [am_nx, Option.bind_eq_some_iff] at h; done) | (split at h <;> first | (cases h; done) | (simp [am_nx, Option.bind_eq_some_iff] at h; done) | (split at h <;> first | (cases h; done) | (simp [am_nx, Option.bind_eq_some_iff] at h; done) | (split at h <;> first | (cases h; done) | (simp [am_nx, Option.bind_eq_some_iff] at h; done))))))
  · -- lload_n
    first | (cases h; done) | (simp [am_nx, Option.bind_eq_some_iff] at h; done) | (split at h <;> first | (cases h; done) | (simp [am_nx, Option.bind_eq_some_iff] at h; done) | (split at h <;> first | (cases h; done) | (simp [am_nx, Option.bind_eq_some_iff] at h; done) | (split at h <;> first | (cases h; done) | (simp [am_nx, Option.bind_eq_some_iff] at h; done) | (split at h <;> first | (cases h; done) | (simp [am_nx, Option.bind_eq_some_iff] at h; done) | (split at h <;> first | (cases h; done) | (simp [am_nx, Option.bind_eq_some_iff] at h; done))))))
  · -- dload
    first | (cases h; done) | (simp [am_nx, Option.bind_eq_some_iff] at h; done) | (split at h <;> first | (cases h; done) | (simp [am_nx, Option.bind_eq_some_iff] at h; done) | (split at h <;> first | (cases h; done) | (simp [am_nx, Option.bind_eq_some_iff] at h; done) | (split at h <;> first | (cases h; done) | (simp [am_nx, Option.bind_eq_some_iff] at h; done) | (split at h <;> first | (cases h; done) | (simp [am_nx, Option.bind_eq_some_iff] at h; done) | (split at h <;> first | (cases h; done) | (simp [am_nx, Option.bind_eq_some_iff] at h; done))))))
  · -- aload
    first | (cases h; done) | (simp [am_nx, Option.bind_eq_some_iff] at h; done) | (split at h <;> first | (cases h; done) | (simp [am_nx, Option.bind_eq_some_iff] at h; done) | (split at h <;> first | (cases h; done) | (simp [am_nx, Option.bind_eq_some_iff] at h; done) | (split at h <;> first | (cases h; done) | (simp [am_nx, Option.bind_eq_some_iff] at h; done) | (split at h <;> first | (cases h; done) | (simp [am_nx, Option.bind_eq_some_iff] at h; done) | (split at h <;> first | (cases h; done) | (simp [am_nx, Option.bind_eq_some_iff] at h; done))))))
  · -- aload_n
    first | (cases h; done) | (simp [am_nx, Option.bind_eq_some_iff] at h; done) | (split at h <;> first | (cases h; done) | (simp [am_nx, Option.bind_eq_some_iff] at h; done) | (split at h <;> first | (cases h; done) | (simp [am_nx, Option.bind_eq_some_iff] at h; done) | (split at h <;> first | (cases h; done) | (simp [am_nx, Option.bind_eq_some_iff] at h; done) | (split at h <;> first | (cases h; done) | (simp [am_nx, Option.bind_eq_some_iff] at h; done) | (split at h <;> first | (cases h; done) | (simp [am_nx, Option.bind_eq_some_iff] at h; done))))))
  · -- istore
    first | (cases h; done) | (simp [am_nx, Option.bind_eq_some_iff] at h; done) | (split at h <;> first | (cases h; done) | (simp [am_nx, Option.bind_eq_some_iff] at h; done) | (split at h <;> first | (cases h; done) | (simp [am_nx, Option.bind_eq_some_iff] at h; done) | (split at h <;> first | (cases h; done) | (simp [am_nx, Option.bind_eq_some_iff] at h; done) | (split at h <;> first | (cases h; done) | (simp [am_nx, Option.bind_eq_some_iff] at h; done) | (split at h <;> first | (cases h; done) | (simp [am_nx, Option.bind_eq_some_iff] at h; done))))))
  · -- istore_n
    first | (cases h; done) | (simp [am_nx, Option.bind_eq_some_iff] at h; done) | (split at h <;> first | (cases h; done) | (simp [am_nx, Option.bind_eq_some_iff] at h; done) | (split at h <;> first | (cases h; done) | (simp [am_nx, Option.bind_eq_some_iff] at h; done) | (split at h <;> first | (cases h; done) | (simp [am_nx, Option.bind_eq_some_iff] at h; done) | (split at h <;> first | (cases h; done) | (simp [am_nx, Option.bind_eq_some_iff] at h; done) | (split at h <;> first | (cases h; done) | (simp [am_nx, Option.bind_eq_some_iff] at h; done))))))
  · -- lstore
    first | (cases h; done) | (simp [am_nx, Option.bind_eq_some_iff] at h; done) | (split at h <;> first | (cases h; done) | (simp [am_nx, Option.bind_eq_some_iff] at h; done) | (split at h <;> first | (cases h; done) | (simp [am_nx, Option.bind_eq_some_iff] at h; done) | (split at h <;> first | (cases h; done) | (simp [am_nx, Option.bind_eq_some_iff] at h; done) | (split at h <;> first | (cases h; done) | (simp [am_nx, Option.bind_eq_some_iff] at h; done) | (split at h <;> first | (cases h; done) | (simp [am_nx, Option.bind_eq_some_iff] at h; done))))))
  · -- lstore_n
    first | (cases h; done) | (simp [am_nx, Option.bind_eq_some_iff] at h; done) | (split at h <;> first | (cases h; done) | (simp [am_nx, Option.bind_eq_some_iff] at h; done) | (split at h <;> first | (cases h; done) | (simp [am_nx, Option.bind_eq_some_iff] at h; done) | (split at h <;> first | (cases h; done) | (simp [am_nx, Option.bind_eq_some_iff] at h; done) | (split at h <;> first | (cases h; done) | (simp [am_nx, Option.bind_eq_some_iff] at h; done) | (split at h <;> first | (cases h; done) | (simp [am_nx, Option.bind_eq_some_iff] at h; done))))))
  · -- dstore
    first | (cases h; done) | (simp [am_nx, Option.bind_eq_some_iff] at h; done) | (split at h <;> first | (cases h; done) | (simp [am_nx, Option.bind_eq_some_iff] at h; done) | (split at h <;> first | (cases h; done) | (simp [am_nx, Option.bind_eq_some_iff] at h; done) | (split at h <;> first | (cases h; done) | (simp [am_nx, Option.bind_eq_some_iff] at h; done) | (split at h <;> first | (cases h; done) | (simp [am_nx, Option.bind_eq_some_iff] at h; done) | (split at h <;> first | (cases h; done) | (simp [am_nx, Option.bind_eq_some_iff] at h; done))))))
  · -- astore
    first | (cases h; done) | (simp [am_nx, Option.bind_eq_some_iff] at h; done) | (split at h <;> first | (cases h; done) | (simp [am_nx, Option.bind_eq_some_iff] at h; done) | (split at h <;> first | (cases h; done) | (simp [am_nx, Option.bind_eq_some_iff] at h; done) | (split at h <;> first | (cases h; done) | (simp [am_nx, Option.bind_eq_some_iff] at h; done) | (split at h <;> first | (cases h; done) | (simp [am_nx, Option.bind_eq_some_iff] at h; done) | (split at h <;> first | (cases h; done) | (simp [am_nx, Option.bind_eq_some_iff] at h; done))))))
  · -- astore_n
    first | (cases h; done) | (simp [am_nx, Option.bind_eq_some_iff] at h; done) | (split at h <;> first | (cases h; done) | (simp [am_nx, Option.bind_eq_some_iff] at h; done) | (split at h <;> first | (cases h; done) | (simp [am_nx, Option.bind_eq_some_iff] at h; done) | (split at h <;> first | (cases h; done) | (simp [am_nx, Option.bind_eq_some_iff] at h; done) | (split at h <;> first | (cases h; done) | (simp [am_nx, Option.bind_eq_some_iff] at h; done) | (split at h <;> first | (cases h; done) | (simp [am_nx, Option.bind_eq_some_iff] at h; done))))))
  · -- iinc
    first | (cases h; done) | (simp [am_nx, Option.bind_eq_some_iff] at h; done) | (split at h <;> first | (cases h; done) | (simp [am_nx, Option.bind_eq_some_iff] at h; done) | (split at h <;> first | (cases h; done) | (simp [am_nx, Option.bind_eq_some_iff] at h; done) | (split at h <;> first | (cases h; done) | (simp [am_nx, Option.bind_eq_some_iff] at h; done) | (split at h <;> first | (cases h; done) | (simp [am_nx, Option.bind_eq_some_iff] at h; done) | (split at h <;> first | (cases h; done) | (simp [am_nx, Option.bind_eq_some_iff] at h; done))))))
  · -- iadd
    first | (cases h; done) | (simp [am_nx, Option.bind_eq_some_iff] at h; done) | (split at h <;> first | (cases h; done) | (simp [am_nx, Option.bind_eq_some_iff] at h; done) | (split at h <;> first | (cases h; done) | (simp [am_nx, Option.bind_eq_some_iff] at h; done) | (split at h <;> first | (cases h; done) | (simp [am_nx, Option.bind_eq_some_iff] at h; done) | (split at h <;> first | (cases h; done) | (simp [am_nx, Option.bind_eq_some_iff] at h; done) | (split at h <;> first | (cases h; done) | (simp [am_nx, Option.bind_eq_some_iff] at h; done))))))
  · -- isub
    first | (cases h; done) | (simp [am_nx, Option.bind_eq_some_iff] at h; done) | (split at h <;> first | (cases h; done) | (simp [am_nx, Option.bind_eq_some_iff] at h; done) | (split at h <;> first | (cases h; done) | (simp [am_nx, Option.bind_eq_some_iff] at h; done) | (split at h <;> first | (cases h; done) | (simp [am_nx, Option.bind_eq_some_iff] at h; done) | (split at h <;> first | (cases h; done) | (simp [am_nx, Option.bind_eq_some_iff] at h; done) | (split at h <;> first | (cases h; done) | (simp [am_nx, Option.bind_eq_some_iff] at h; done))))))
  · -- imul
    first | (cases h; done) | (simp [am_nx, Option.bind_eq_some_iff] at h; done) | (split at h <;> first | (cases h; done) | (simp [am_nx, Option.bind_eq_some_iff] at h; done) | (split at h <;> first | (cases h; done) | (simp [am_nx, Option.bind_eq_some_iff] at h; done) | (split at h <;> first | (cases h; done) | (simp [am_nx, Option.bind_eq_some_iff] at h; done) | (split at h <;> first | (cases h; done) | (simp [am_nx, Option.bind_eq_some_iff] at h; done) | (split at h <;> first | (cases h; done) | (simp [am_nx, Option.bind_eq_some_iff] at h; done))))))
  · -- idiv
    first | (cases h; done) | (simp [am_nx, Option.bind_eq_some_iff] at h; done) | (split at h <;> first | (cases h; done) | (simp [am_nx, Option.bind_eq_some_iff] at h; done) | (split at h <;> first | (cases h; done) | (simp [am_nx, Option.bind_eq_some_iff] at h; done) | (split at h <;> first | (cases h; done) | (simp [am_nx, Option.bind_eq_some_iff] at h; done) | (split at h <;> first | (cases h; done) | (simp [am_nx, Option.bind_eq_some_iff] at h; done) | (split at h <;> first | (cases h; done) | (simp [am_nx, Option.bind_eq_some_iff] at h; done))))))
  · -- irem
    first | (cases h; done) | (simp [am_nx, Option.bind_eq_some_iff] at h; done) | (split at h <;> first | (cases h; done) | (simp [am_nx, Option.bind_eq_some_iff] at h; done) | (split at h <;> first | (cases h; done) | (simp [am_nx, Option.bind_eq_some_iff] at h; done) | (split at h <;> first | (cases h; done) | (simp [am_nx, Option.bind_eq_some_iff] at h; done) | (split at h <;> first | (cases h; done) | (simp [am_nx, Option.bind_eq_some_iff] at h; done) | (split at h <;> first | (cases h; done) | (simp [am_nx, Option.bind_eq_some_iff] at h; done))))))
  · -- ineg
    first | (cases h; done) | (simp [am_nx, Option.bind_eq_some_iff] at h; done) | (split at h <;> first | (cases h; done) | (simp [am_nx, Option.bind_eq_some_iff] at h; done) | (split at h <;> first | (cases h; done) | (simp [am_nx, Option.bind_eq_some_iff] at h; done) | (split at h <;> first | (cases h; done) | (simp [am_nx, Option.bind_eq_some_iff] at h; done) | (split at h <;> first | (cases h; done) | (simp [am_nx, Option.bind_eq_some_iff] at h; done) | (split at h <;> first | (cases h; done) | (simp [am_nx, Option.bind_eq_some_iff] at h; done))))))
  · -- iand
    first | (cases h; done) | (simp [am_nx, Option.bind_eq_some_iff] at h; done) | (split at h <;> first | (cases h; done) | (simp [am_nx, Option.bind_eq_some_iff] at h; done) | (split at h <;> first | (cases h; done) | (simp [am_nx, Option.bind_eq_some_iff] at h; done) | (split at h <;> first | (cases h; done) | (simp [am_nx, Option.bind_eq_some_iff] at h; done) | (split at h <;> first | (cases h; done) | (simp [am_nx, Option.bind_eq_some_iff] at h; done) | (split at h <;> first | (cases h; done) | (simp [am_nx, Option.bind_eq_some_iff] at h; done))))))
  · -- ior
    first | (cases h; done) | (simp [am_nx, Option.bind_eq_some_iff] at h; done) | (split at h <;> first | (cases h; done) | (simp [am_nx, Option.bind_eq_some_iff] at h; done) | (split at h <;> first | (cases h; done) | (simp [am_nx, Option.bind_eq_some_iff] at h; done) | (split at h <;> first | (cases h; done) | (simp [am_nx, Option.bind_eq_some_iff] at h; done) | (split at h <;> first | (cases h; done) | (simp [am_nx, Option.bind_eq_some_iff] at h; done) | (split at h <;> first | (cases h; done) | (simp [am_nx, Option.bind_eq_some_iff] at h; done))))))
  · -- ixor
    first | (cases h; done) | (simp [am_nx, Option.bind_eq_some_iff] at h; done) | (split at h <;> first | (cases h; done) | (simp [am_nx, Option.bind_eq_some_iff] at h; done) | (split at h <;> first | (cases h; done) | (simp [am_nx, Option.bind_eq_some_iff] at h; done) | (split at h <;> first | (cases h; done) | (simp [am_nx, Option.bind_eq_some_iff] at h; done) | (split at h <;> first | (cases h; done) | (simp [am_nx, Option.bind_eq_some_iff] at h; done) | (split at h <;> first | (cases h; done) | (simp [am_nx, Option.bind_eq_some_iff] at h; done))))))
  · -- ishl
    first | (cases h; done) | (simp [am_nx, Option.bind_eq_some_iff] at h; done) | (split at h <;> first | (cases h; done) | (simp [am_nx, Option.bind_eq_some_iff] at h; done) | (split at h <;> first | (cases h; done) | (simp [am_nx, Option.bind_eq_some_iff] at h; done) | (split at h <;> first | (cases h; done) | (simp [am_nx, Option.bind_eq_some_iff] at h; done) | (split at h <;> first | (cases h; done) | (simp [am_nx, Option.bind_eq_some_iff] at h; done) | (split at h <;> first | (cases h; done) | (simp [am_nx, Option.bind_eq_some_iff] at h; done))))))
  · -- ishr
    first | (cases h; done) | (simp [am_nx, Option.bind_eq_some_iff] at h; done) | (split at h <;> first | (cases h; done) | (simp [am_nx, Option.bind_eq_some_iff] at h; done) | (split at h <;> first | (cases h; done) | (simp [am_nx, Option.bind_eq_some_iff] at h; done) | (split at h <;> first | (cases h; done) | (simp [am_nx, Option.bind_eq_some_iff] at h; done) | (split at h <;> first | (cases h; done) | (simp [am_nx, Option.bind_eq_some_iff] at h; done) | (split at h <;> first | (cases h; done) | (simp [am_nx, Option.bind_eq_some_iff] at h; done))))))
  · -- iushr
    first | (cases h; done) | (simp [am_nx, Option.bind_eq_some_iff] at h; done) | (split at h <;> first | (cases h; done) | (simp [am_nx, Option.bind_eq_some_iff] at h; done) | (split at h <;> first | (cases h; done) | (simp [am_nx, Option.bind_eq_some_iff] at h; done) | (split at h <;> first | (cases h; done) | (simp [am_nx, Option.bind_eq_some_iff] at h; done) | (split at h <;> first | (cases h; done) | (simp [am_nx, Option.bind_eq_some_iff] at h; done) | (split at h <;> first | (cases h; done) | (simp [am_nx, Option.bind_eq_some_iff] at h; done))))))
  · -- ladd
    first | (cases h; done) | (simp [am_nx, Option.bind_eq_some_iff] at h; done) | (split at h <;> first | (cases h; done) | (simp [am_nx, Option.bind_eq_some_iff] at h; done) | (split at h <;> first | (cases h; done) | (simp [am_nx, Option.bind_eq_some_iff] at h; done) | (split at h <;> first | (cases h; done) | (simp [am_nx, Option.bind_eq_some_iff] at h; done) | (split at h <;> first | (cases h; done) | (simp [am_nx, Option.bind_eq_some_iff] at h; done) | (split at h <;> first | (cases h; done) | (simp [am_nx, Option.bind_eq_some_iff] at h; done))))))
  · -- lsub
    first | (cases h; done) | (simp [am_nx, Option.bind_eq_some_iff] at h; done) | (split at h <;> first | (cases h; done) | (simp [am_nx, Option.bind_eq_some_iff] at h; done) | (split at h <;> first | (cases h; done) | (simp [am_nx, Option.bind_eq_some_iff] at h; done) | (split at h <;> first | (cases h; done) | (simp [am_nx, Option.bind_eq_some_iff] at h; done) | (split at h <;> first | (cases h; done) | (simp [am_nx, Option.bind_eq_some_iff] at h; done) | (split at h <;> first | (cases h; done) | (simp [am_nx, Option.bind_eq_some_iff] at h; done))))))
  · -- lmul
    first | (cases h; done) | (simp [am_nx, Option.bind_eq_some_iff] at h; done) | (split at h <;> first | (cases h; done) | (simp [am_nx, Option.bind_eq_some_iff] at h; done) | (split at h <;> first | (cases h; done) | (simp [am_nx, Option.bind_eq_some_iff] at h; done) | (split at h <;> first | (cases h; done) | (simp [am_nx, Option.bind_eq_some_iff] at h; done) | (split at h <;> first | (cases h; done) | (simp [am_nx, Option.bind_eq_some_iff] at h; done) | (split at h <;> first | (cases h; done) | (simp [am_nx, Option.bind_eq_some_iff] at h; done))))))
  · -- land
    first | (cases h; done) | (simp [am_nx, Option.bind_eq_some_iff] at h; done) | (split at h <;> first | (cases h; done) | (simp [am_nx, Option.bind_eq_some_iff] at h; done) | (split at h <;> first | (cases h; done) | (simp [am_nx, Option.bind_eq_some_iff] at h; done) | (split at h <;> first | (cases h; done) | (simp [am_nx, Option.bind_eq_some_iff] at h; done) | (split at h <;> first | (cases h; done) | (simp [am_nx, Option.bind_eq_some_iff] at h; done) | (split at h <;> first | (cases h; done) | (simp [am_nx, Option.bind_eq_some_iff] at h; done))))))
  · -- lor
    first | (cases h; done) | (simp [am_nx, Option.bind_eq_some_iff] at h; done) | (split at h <;> first | (cases h; done) | (simp [am_nx, Option.bind_eq_some_iff] at h; done) | (split at h <;> first | (cases h; done) | (simp [am_nx, Option.bind_eq_some_iff] at h; done) | (split at h <;> first | (cases h; done) | (simp [am_nx, Option.bind_eq_some_iff] at h; done) | (split at h <;> first | (cases h; done) | (simp [am_nx, Option.bind_eq_some_iff] at h; done) | (split at h <;> first | (cases h; done) | (simp [am_nx, Option.bind_eq_some_iff] at h; done))))))
  · -- lxor
    first | (cases h; done) | (simp [am_nx, Option.bind_eq_some_iff] at h; done) | (split at h <;> first | (cases h; done) | (simp [am_nx, Option.bind_eq_some_iff] at h; done) | (split at h <;> first | (cases h; done) | (simp [am_nx, Option.bind_eq_some_iff] at h; done) | (split at h <;> first | (cases h; done) | (simp [am_nx, Option.bind_eq_some_iff] at h; done) | (split at h <;> first | (cases h; done) | (simp [am_nx, Option.bind_eq_some_iff] at h; done) | (split at h <;> first | (cases h; done) | (simp [am_nx, Option.bind_eq_some_iff] at h; done))))))
  · -- lshl
    first | (cases h; done) | (simp [am_nx, Option.bind_eq_some_iff] at h; done) | (split at h <;> first | (cases h; done) | (simp [am_nx, Option.bind_eq_some_iff] at h; done) | (split at h <;> first | (cases h; done) | (simp [am_nx, Option.bind_eq_some_iff] at h; done) | (split at h <;> first | (cases h; done) | (simp [am_nx, Option.bind_eq_some_iff] at h; done) | (split at h <;> first | (cases h; done) | (simp [am_nx, Option.bind_eq_some_iff] at h; done) | (split at h <;> first | (cases h; done) | (simp [am_nx, Option.bind_eq_some_iff] at h; done))))))
  · -- lushr
    first | (cases h; done) | (simp [am_nx, Option.bind_eq_some_iff] at h; done) | (split at h <;> first | (cases h; done) | (simp [am_nx, Option.bind_eq_some_iff] at h; done) | (split at h <;> first | (cases h; done) | (simp [am_nx, Option.bind_eq_some_iff] at h; done) | (split at h <;> first | (cases h; done) | (simp [am_nx, Option.bind_eq_some_iff] at h; done) | (split at h <;> first | (cases h; done) | (simp [am_nx, Option.bind_eq_some_iff] at h; done) | (split at h <;> first | (cases h; done) | (simp [am_nx, Option.bind_eq_some_iff] at h; done))))))
  · -- lcmp
    first | (cases h; done) | (simp [am_nx, Option.bind_eq_some_iff] at h; done) | (split at h <;> first | (cases h; done) | (simp [am_nx, Option.bind_eq_some_iff] at h; done) | (split at h <;> first | (cases h; done) | (simp [am_nx, Option.bind_eq_some_iff] at h; done) | (split at h <;> first | (cases h; done) | (simp [am_nx, Option.bind_eq_some_iff] at h; done) | (split at h <;> first | (cases h; done) | (simp [am_nx, Option.bind_eq_some_iff] at h; done) | (split at h <;> first | (cases h; done) | (simp [am_nx, Option.bind_eq_some_iff] at h; done))))))
  · -- i2l
    first | (cases h; done) | (simp [am_nx, Option.bind_eq_some_iff] at h; done) | (split at h <;> first | (cases h; done) | (simp [am_nx, Option.bind_eq_some_iff] at h; done) | (split at h <;> first | (cases h; done) | (simp [am_nx, Option.bind_eq_some_iff] at h; done) | (split at h <;> first | (cases h; done) | (simp [am_nx, Option.bind_eq_some_iff] at h; done) | (split at h <;> first | (cases h; done) | (simp [am_nx, Option.bind_eq_some_iff] at h; done) | (split at h <;> first | (cases h; done) | (simp [am_nx, Option.bind_eq_some_iff] at h; done))))))
  · -- l2i
    first | (cases h; done) | (simp [am_nx, Option.bind_eq_some_iff] at h; done) | (split at h <;> first | (cases h; done) | (simp [am_nx, Option.bind_eq_some_iff] at h; done) | (split at h <;> first | (cases h; done) | (simp [am_nx, Option.bind_eq_some_iff] at h; done) | (split at h <;> first | (cases h; done) | (simp [am_nx, Option.bind_eq_some_iff] at h; done) | (split at h <;> first | (cases h; done) | (simp [am_nx, Option.bind_eq_some_iff] at h; done) | (split at h <;> first | (cases h; done) | (simp [am_nx, Option.bind_eq_some_iff] at h; done))))))
  · -- i2b
    first | (cases h; done) | (simp [am_nx, Option.bind_eq_some_iff] at h; done) | (split at h <;> first | (cases h; done) | (simp [am_nx, Option.bind_eq_some_iff] at h; done) | (split at h <;> first | (cases h; done) | (simp [am_nx, Option.bind_eq_some_iff] at h; done) | (split at h <;> first | (cases h; done) | (simp [am_nx, Option.bind_eq_some_iff] at h; done) | (split at h <;> first | (cases h; done) | (simp [am_nx, Option.bind_eq_some_iff] at h; done) | (split at h <;> first | (cases h; done) | (simp [am_nx, Option.bind_eq_some_iff] at h; done))))))
  · -- i2c
    first | (cases h; done) | (simp [am_nx, Option.bind_eq_some_iff] at h; done) | (split at h <;> first | (cases h; done) | (simp [am_nx, Option.bind_eq_some_iff] at h; done) | (split at h <;> first | (cases h; done) | (simp [am_nx, Option.bind_eq_some_iff] at h; done) | (split at h <;> first | (cases h; done) | (simp [am_nx, Option.bind_eq_some_iff] at h; done) | (split at h <;> first | (cases h; done) | (simp [am_nx, Option.bind_eq_some_iff] at h; done) | (split at h <;> first | (cases h; done) | (simp [am_nx, Option.bind_eq_some_iff] at h; done))))))
  · -- i2d
    first | (cases h; done) | (simp [am_nx, Option.bind_eq_some_iff] at h; done) | (split at h <;> first | (cases h; done) | (simp [am_nx, Option.bind_eq_some_iff] at h; done) | (split at h <;> first | (cases h; done) | (simp [am_nx, Option.bind_eq_some_iff] at h; done) | (split at h <;> first | (cases h; done) | (simp [am_nx, Option.bind_eq_some_iff] at h; done) | (split at h <;> first | (cases h; done) | (simp [am_nx, Option.bind_eq_some_iff] at h; done) | (split at h <;> first | (cases h; done) | (simp [am_nx, Option.bind_eq_some_iff] at h; done))))))
  · -- d2l
    first | (cases h; done) | (simp [am_nx, Option.bind_eq_some_iff] at h; done) | (split at h <;> first | (cases h; done) | (simp [am_nx, Option.bind_eq_some_iff] at h; done) | (split at h <;> first | (cases h; done) | (simp [am_nx, Option.bind_eq_some_iff] at h; done) | (split at h <;> first | (cases h; done) | (simp [am_nx, Option.bind_eq_some_iff] at h; done) | (split at h <;> first | (cases h; done) | (simp [am_nx, Option.bind_eq_some_iff] at h; done) | (split at h <;> first | (cases h; done) | (simp [am_nx, Option.bind_eq_some_iff] at h; done))))))
  · -- ddiv
    first | (cases h; done) | (simp [am_nx, Option.bind_eq_some_iff] at h; done) | (split at h <;> first | (cases h; done) | (simp [am_nx, Option.bind_eq_some_iff] at h; done) | (split at h <;> first | (cases h; done) | (simp [am_nx, Option.bind_eq_some_iff] at h; done) | (split at h <;> first | (cases h; done) | (simp [am_nx, Option.bind_eq_some_iff] at h; done) | (split at h <;> first | (cases h; done) | (simp [am_nx, Option.bind_eq_some_iff] at h; done) | (split at h <;> first | (cases h; done) | (simp [am_nx, Option.bind_eq_some_iff] at h; done))))))
  · -- dmul
    first | (cases h; done) | (simp [am_nx, Option.bind_eq_some_iff] at h; done) | (split at h <;> first | (cases h; done) | (simp [am_nx, Option.bind_eq_some_iff] at h; done) | (split at h <;> first | (cases h; done) | (simp [am_nx, Option.bind_eq_some_iff] at h; done) | (split at h <;> first | (cases h; done) | (simp [am_nx, Option.bind_eq_some_iff] at h; done) | (split at h <;> first | (cases h; done) | (simp [am_nx, Option.bind_eq_some_iff] at h; done) | (split at h <;> first | (cases h; done) | (simp [am_nx, Option.bind_eq_some_iff] at h; done))))))
  · -- dcmp
    first | (cases h; done) | (simp [am_nx, Option.bind_eq_some_iff] at h; done) | (split at h <;> first | (cases h; done) | (simp [am_nx, Option.bind_eq_some_iff] at h; done) | (split at h <;> first | (cases h; done) | (simp [am_nx, Option.bind_eq_some_iff] at h; done) | (split at h <;> first | (cases h; done) | (simp [am_nx, Option.bind_eq_some_iff] at h; done) | (split at h <;> first | (cases h; done) | (simp [am_nx, Option.bind_eq_some_iff] at h; done) | (split at h <;> first | (cases h; done) | (simp [am_nx, Option.bind_eq_some_iff] at h; done))))))
  · -- dup
    first | (cases h; done) | (simp [am_nx, Option.bind_eq_some_iff] at h; done) | (split at h <;> first | (cases h; done) | (simp [am_nx, Option.bind_eq_some_iff] at h; done) | (split at h <;> first | (cases h; done) | (simp [am_nx, Option.bind_eq_some_iff] at h; done) | (split at h <;> first | (cases h; done) | (simp [am_nx, Option.bind_eq_some_iff] at h; done) | (split at h <;> first | (cases h; done) | (simp [am_nx, Option.bind_eq_some_iff] at h; done) | (split at h <;> first | (cases h; done) | (simp [am_nx, Option.bind_eq_some_iff] at h; done))))))
  · -- dup_x1
    first | (cases h; done) | (simp [am_nx, Option.bind_eq_some_iff] at h; done) | (split at h <;> first | (cases h; done) | (simp [am_nx, Option.bind_eq_some_iff] at h; done) | (split at h <;> first | (cases h; done) | (simp [am_nx, Option.bind_eq_some_iff] at h; done) | (split at h <;> first | (cases h; done) | (simp [am_nx, Option.bind_eq_some_iff] at h; done) | (split at h <;> first | (cases h; done) | (simp [am_nx, Option.bind_eq_some_iff] at h; done) | (split at h <;> first | (cases h; done) | (simp [am_nx, Option.bind_eq_some_iff] at h; done))))))
  · -- dup2
    first | (cases h; done) | (simp [am_nx, Option.bind_eq_some_iff] at h; done) | (split at h <;> first | (cases h; done) | (simp [am_nx, Option.bind_eq_some_iff] at h; done) | (split at h <;> first | (cases h; done) | (simp [am_nx, Option.bind_eq_some_iff] at h; done) | (split at h <;> first | (cases h; done) | (simp [am_nx, Option.bind_eq_some_iff] at h; done) | (split at h <;> first | (cases h; done) | (simp [am_nx, Option.bind_eq_some_iff] at h; done) | (split at h <;> first | (cases h; done) | (simp [am_nx, Option.bind_eq_some_iff] at h; done))))))
  · -- pop
    first | (cases h; done) | (simp [am_nx, Option.bind_eq_some_iff] at h; done) | (split at h <;> first | (cases h; done) | (simp [am_nx, Option.bind_eq_some_iff] at h; done) | (split at h <;> first | (cases h; done) | (simp [am_nx, Option.bind_eq_some_iff] at h; done) | (split at h <;> first | (cases h; done) | (simp [am_nx, Option.bind_eq_some_iff] at h; done) | (split at h <;> first | (cases h; done) | (simp [am_nx, Option.bind_eq_some_iff] at h; done) | (split at h <;> first | (cases h; done) | (simp [am_nx, Option.bind_eq_some_iff] at h; done))))))
  · -- pop2
    first | (cases h; done) | (simp [am_nx, Option.bind_eq_some_iff] at h; done) | (split at h <;> first | (cases h; done) | (simp [am_nx, Option.bind_eq_some_iff] at h; done) | (split at h <;> first | (cases h; done) | (simp [am_nx, Option.bind_eq_some_iff] at h; done) | (split at h <;> first | (cases h; done) | (simp [am_nx, Option.bind_eq_some_iff] at h; done) | (split at h <;> first | (cases h; done) | (simp [am_nx, Option.bind_eq_some_iff] at h; done) | (split at h <;> first | (cases h; done) | (simp [am_nx, Option.bind_eq_some_iff] at h; done))))))
  · -- goto
    first | (cases h; done) | (simp [am_nx, Option.bind_eq_some_iff] at h; done) | (split at h <;> first | (cases h; done) | (simp [am_nx, Option.bind_eq_some_iff] at h; done) | (split at h <;> first | (cases h; done) | (simp [am_nx, Option.bind_eq_some_iff] at h; done) | (split at h <;> first | (cases h; done) | (simp [am_nx, Option.bind_eq_some_iff] at h; done) | (split at h <;> first | (cases h; done) | (simp [am_nx, Option.bind_eq_some_iff] at h; done) | (split at h <;> first | (cases h; done) | (simp [am_nx, Option.bind_eq_some_iff] at h; done))))))
  · -- ifCond
    split at h
    · exact absurd h (am_br_no _ _ _ _ _ _ _)
    · cases h
  · -- if_icmp
    split at h
    · exact absurd h (am_br_no _ _ _ _ _ _ _)
    · cases h
  · -- if_acmp
    split at h
    · exact absurd h (am_br_no _ _ _ _ _ _ _)
    · cases h
  · -- ifnull
    first | (cases h; done) | (simp [am_nx, Option.bind_eq_some_iff] at h; done) | (split at h <;> first | (cases h; done) | (simp [am_nx, Option.bind_eq_some_iff] at h; done) | (split at h <;> first | (cases h; done) | (simp [am_nx, Option.bind_eq_some_iff] at h; done) | (split at h <;> first | (cases h; done) | (simp [am_nx, Option.bind_eq_some_iff] at h; done) | (split at h <;> first | (cases h; done) | (simp [am_nx, Option.bind_eq_some_iff] at h; done) | (split at h <;> first | (cases h; done) | (simp [am_nx, Option.bind_eq_some_iff] at h; done))))))
  · -- ifnonnull
    first | (cases h; done) | (simp [am_nx, Option.bind_eq_some_iff] at h; done) | (split at h <;> first | (cases h; done) | (simp [am_nx, Option.bind_eq_some_iff] at h; done) | (split at h <;> first | (cases h; done) | (simp [am_nx, Option.bind_eq_some_iff] at h; done) | (split at h <;> first | (cases h; done) | (simp [am_nx, Option.bind_eq_some_iff] at h; done) | (split at h <;> first | (cases h; done) | (simp [am_nx, Option.bind_eq_some_iff] at h; done) | (split at h <;> first | (cases h; done) | (simp [am_nx, Option.bind_eq_some_iff] at h; done))))))
  · -- lookupswitch
    first | (cases h; done) | (simp [am_nx, Option.bind_eq_some_iff] at h; done) | (split at h <;> first | (cases h; done) | (simp [am_nx, Option.bind_eq_some_iff] at h; done) | (split at h <;> first | (cases h; done) | (simp [am_nx, Option.bind_eq_some_iff] at h; done) | (split at h <;> first | (cases h; done) | (simp [am_nx, Option.bind_eq_some_iff] at h; done) | (split at h <;> first | (cases h; done) | (simp [am_nx, Option.bind_eq_some_iff] at h; done) | (split at h <;> first | (cases h; done) | (simp [am_nx, Option.bind_eq_some_iff] at h; done))))))
  · -- tableswitch
    first | (cases h; done) | (simp [am_nx, Option.bind_eq_some_iff] at h; done) | (split at h <;> first | (cases h; done) | (simp [am_nx, Option.bind_eq_some_iff] at h; done) | (split at h <;> first | (cases h; done) | (simp [am_nx, Option.bind_eq_some_iff] at h; done) | (split at h <;> first | (cases h; done) | (simp [am_nx, Option.bind_eq_some_iff] at h; done) | (split at h <;> first | (cases h; done) | (simp [am_nx, Option.bind_eq_some_iff] at h; done) | (split at h <;> first | (cases h; done) | (simp [am_nx, Option.bind_eq_some_iff] at h; done))))))
  · -- getfield
    first | (cases h; done) | (simp [am_nx, Option.bind_eq_some_iff] at h; done) | (split at h <;> first | (cases h; done) | (simp [am_nx, Option.bind_eq_some_iff] at h; done) | (split at h <;> first | (cases h; done) | (simp [am_nx, Option.bind_eq_some_iff] at h; done) | (split at h <;> first | (cases h; done) | (simp [am_nx, Option.bind_eq_some_iff] at h; done) | (split at h <;> first | (cases h; done) | (simp [am_nx, Option.bind_eq_some_iff] at h; done) | (split at h <;> first | (cases h; done) | (simp [am_nx, Option.bind_eq_some_iff] at h; done))))))
  · -- putfield
    first | (cases h; done) | (simp [am_nx, Option.bind_eq_some_iff] at h; done) | (split at h <;> first | (cases h; done) | (simp [am_nx, Option.bind_eq_some_iff] at h; done) | (split at h <;> first | (cases h; done) | (simp [am_nx, Option.bind_eq_some_iff] at h; done) | (split at h <;> first | (cases h; done) | (simp [am_nx, Option.bind_eq_some_iff] at h; done) | (split at h <;> first | (cases h; done) | (simp [am_nx, Option.bind_eq_some_iff] at h; done) | (split at h <;> first | (cases h; done) | (simp [am_nx, Option.bind_eq_some_iff] at h; done))))))
  · -- getstatic
    first | (cases h; done) | (simp [am_nx, Option.bind_eq_some_iff] at h; done) | (split at h <;> first | (cases h; done) | (simp [am_nx, Option.bind_eq_some_iff] at h; done) | (split at h <;> first | (cases h; done) | (simp [am_nx, Option.bind_eq_some_iff] at h; done) | (split at h <;> first | (cases h; done) | (simp [am_nx, Option.bind_eq_some_iff] at h; done) | (split at h <;> first | (cases h; done) | (simp [am_nx, Option.bind_eq_some_iff] at h; done) | (split at h <;> first | (cases h; done) | (simp [am_nx, Option.bind_eq_some_iff] at h; done))))))
  · -- iaload
    first | (cases h; done) | (simp [am_nx, Option.bind_eq_some_iff] at h; done) | (split at h <;> first | (cases h; done) | (simp [am_nx, Option.bind_eq_some_iff] at h; done) | (split at h <;> first | (cases h; done) | (simp [am_nx, Option.bind_eq_some_iff] at h; done) | (split at h <;> first | (cases h; done) | (simp [am_nx, Option.bind_eq_some_iff] at h; done) | (split at h <;> first | (cases h; done) | (simp [am_nx, Option.bind_eq_some_iff] at h; done) | (split at h <;> first | (cases h; done) | (simp [am_nx, Option.bind_eq_some_iff] at h; done))))))
  · -- baload
    first | (cases h; done) | (simp [am_nx, Option.bind_eq_some_iff] at h; done) | (split at h <;> first | (cases h; done) | (simp [am_nx, Option.bind_eq_some_iff] at h; done) | (split at h <;> first | (cases h; done) | (simp [am_nx, Option.bind_eq_some_iff] at h; done) | (split at h <;> first | (cases h; done) | (simp [am_nx, Option.bind_eq_some_iff] at h; done) | (split at h <;> first | (cases h; done) | (simp [am_nx, Option.bind_eq_some_iff] at h; done) | (split at h <;> first | (cases h; done) | (simp [am_nx, Option.bind_eq_some_iff] at h; done))))))
  · -- laload
    first | (cases h; done) | (simp [am_nx, Option.bind_eq_some_iff] at h; done) | (split at h <;> first | (cases h; done) | (simp [am_nx, Option.bind_eq_some_iff] at h; done) | (split at h <;> first | (cases h; done) | (simp [am_nx, Option.bind_eq_some_iff] at h; done) | (split at h <;> first | (cases h; done) | (simp [am_nx, Option.bind_eq_some_iff] at h; done) | (split at h <;> first | (cases h; done) | (simp [am_nx, Option.bind_eq_some_iff] at h; done) | (split at h <;> first | (cases h; done) | (simp [am_nx, Option.bind_eq_some_iff] at h; done))))))
  · -- aaload
    first | (cases h; done) | (simp [am_nx, Option.bind_eq_some_iff] at h; done) | (split at h <;> first | (cases h; done) | (simp [am_nx, Option.bind_eq_some_iff] at h; done) | (split at h <;> first | (cases h; done) | (simp [am_nx, Option.bind_eq_some_iff] at h; done) | (split at h <;> first | (cases h; done) | (simp [am_nx, Option.bind_eq_some_iff] at h; done) | (split at h <;> first | (cases h; done) | (simp [am_nx, Option.bind_eq_some_iff] at h; done) | (split at h <;> first | (cases h; done) | (simp [am_nx, Option.bind_eq_some_iff] at h; done))))))
  · -- iastore
    first | (cases h; done) | (simp [am_nx, Option.bind_eq_some_iff] at h; done) | (split at h <;> first | (cases h; done) | (simp [am_nx, Option.bind_eq_some_iff] at h; done) | (split at h <;> first | (cases h; done) | (simp [am_nx, Option.bind_eq_some_iff] at h; done) | (split at h <;> first | (cases h; done) | (simp [am_nx, Option.bind_eq_some_iff] at h; done) | (split at h <;> first | (cases h; done) | (simp [am_nx, Option.bind_eq_some_iff] at h; done) | (split at h <;> first | (cases h; done) | (simp [am_nx, Option.bind_eq_some_iff] at h; done))))))
  · -- bastore
    first | (cases h; done) | (simp [am_nx, Option.bind_eq_some_iff] at h; done) | (split at h <;> first | (cases h; done) | (simp [am_nx, Option.bind_eq_some_iff] at h; done) | (split at h <;> first | (cases h; done) | (simp [am_nx, Option.bind_eq_some_iff] at h; done) | (split at h <;> first | (cases h; done) | (simp [am_nx, Option.bind_eq_some_iff] at h; done) | (split at h <;> first | (cases h; done) | (simp [am_nx, Option.bind_eq_some_iff] at h; done) | (split at h <;> first | (cases h; done) | (simp [am_nx, Option.bind_eq_some_iff] at h; done))))))
  · -- lastore
    first | (cases h; done) | (simp [am_nx, Option.bind_eq_some_iff] at h; done) | (split at h <;> first | (cases h; done) | (simp [am_nx, Option.bind_eq_some_iff] at h; done) | (split at h <;> first | (cases h; done) | (simp [am_nx, Option.bind_eq_some_iff] at h; done) | (split at h <;> first | (cases h; done) | (simp [am_nx, Option.bind_eq_some_iff] at h; done) | (split at h <;> first | (cases h; done) | (simp [am_nx, Option.bind_eq_some_iff] at h; done) | (split at h <;> first | (cases h; done) | (simp [am_nx, Option.bind_eq_some_iff] at h; done))))))
  · -- aastore
    first | (cases h; done) | (simp [am_nx, Option.bind_eq_some_iff] at h; done) | (split at h <;> first | (cases h; done) | (simp [am_nx, Option.bind_eq_some_iff] at h; done) | (split at h <;> first | (cases h; done) | (simp [am_nx, Option.bind_eq_some_iff] at h; done) | (split at h <;> first | (cases h; done) | (simp [am_nx, Option.bind_eq_some_iff] at h; done) | (split at h <;> first | (cases h; done) | (simp [am_nx, Option.bind_eq_some_iff] at h; done) | (split at h <;> first | (cases h; done) | (simp [am_nx, Option.bind_eq_some_iff] at h; done))))))
  · -- arraylength
    first | (cases h; done) | (simp [am_nx, Option.bind_eq_some_iff] at h; done) | (split at h <;> first | (cases h; done) | (simp [am_nx, Option.bind_eq_some_iff] at h; done) | (split at h <;> first | (cases h; done) | (simp [am_nx, Option.bind_eq_some_iff] at h; done) | (split at h <;> first | (cases h; done) | (simp [am_nx, Option.bind_eq_some_iff] at h; done) | (split at h <;> first | (cases h; done) | (simp [am_nx, Option.bind_eq_some_iff] at h; done) | (split at h <;> first | (cases h; done) | (simp [am_nx, Option.bind_eq_some_iff] at h; done))))))
  · -- newarray
    first | (cases h; done) | (simp [am_nx, Option.bind_eq_some_iff] at h; done) | (split at h <;> first | (cases h; done) | (simp [am_nx, Option.bind_eq_some_iff] at h; done) | (split at h <;> first | (cases h; done) | (simp [am_nx, Option.bind_eq_some_iff] at h; done) | (split at h <;> first | (cases h; done) | (simp [am_nx, Option.bind_eq_some_iff] at h; done) | (split at h <;> first | (cases h; done) | (simp [am_nx, Option.bind_eq_some_iff] at h; done) | (split at h <;> first | (cases h; done) | (simp [am_nx, Option.bind_eq_some_iff] at h; done))))))
  · -- anewarray
    first | (cases h; done) | (simp [am_nx, Option.bind_eq_some_iff] at h; done) | (split at h <;> first | (cases h; done) | (simp [am_nx, Option.bind_eq_some_iff] at h; done) | (split at h <;> first | (cases h; done) | (simp [am_nx, Option.bind_eq_some_iff] at h; done) | (split at h <;> first | (cases h; done) | (simp [am_nx, Option.bind_eq_some_iff] at h; done) | (split at h <;> first | (cases h; done) | (simp [am_nx, Option.bind_eq_some_iff] at h; done) | (split at h <;> first | (cases h; done) | (simp [am_nx, Option.bind_eq_some_iff] at h; done))))))
  · -- multianewarray
    first | (cases h; done) | (simp [am_nx, Option.bind_eq_some_iff] at h; done) | (split at h <;> first | (cases h; done) | (simp [am_nx, Option.bind_eq_some_iff] at h; done) | (split at h <;> first | (cases h; done) | (simp [am_nx, Option.bind_eq_some_iff] at h; done) | (split at h <;> first | (cases h; done) | (simp [am_nx, Option.bind_eq_some_iff] at h; done) | (split at h <;> first | (cases h; done) | (simp [am_nx, Option.bind_eq_some_iff] at h; done) | (split at h <;> first | (cases h; done) | (simp [am_nx, Option.bind_eq_some_iff] at h; done))))))
  · -- new
    first | (cases h; done) | (simp [am_nx, Option.bind_eq_some_iff] at h; done) | (split at h <;> first | (cases h; done) | (simp [am_nx, Option.bind_eq_some_iff] at h; done) | (split at h <;> first | (cases h; done) | (simp [am_nx, Option.bind_eq_some_iff] at h; done) | (split at h <;> first | (cases h; done) | (simp [am_nx, Option.bind_eq_some_iff] at h; done) | (split at h <;> first | (cases h; done) | (simp [am_nx, Option.bind_eq_some_iff] at h; done) | (split at h <;> first | (cases h; done) | (simp [am_nx, Option.bind_eq_some_iff] at h; done))))))
  · -- checkcast
    first | (cases h; done) | (simp [am_nx, Option.bind_eq_some_iff] at h; done) | (split at h <;> first | (cases h; done) | (simp [am_nx, Option.bind_eq_some_iff] at h; done) | (split at h <;> first | (cases h; done) | (simp [am_nx, Option.bind_eq_some_iff] at h; done) | (split at h <;> first | (cases h; done) | (simp [am_nx, Option.bind_eq_some_iff] at h; done) | (split at h <;> first | (cases h; done) | (simp [am_nx, Option.bind_eq_some_iff] at h; done) | (split at h <;> first | (cases h; done) | (simp [am_nx, Option.bind_eq_some_iff] at h; done))))))
  · -- instanceof
    first | (cases h; done) | (simp [am_nx, Option.bind_eq_some_iff] at h; done) | (split at h <;> first | (cases h; done) | (simp [am_nx, Option.bind_eq_some_iff] at h; done) | (split at h <;> first | (cases h; done) | (simp [am_nx, Option.bind_eq_some_iff] at h; done) | (split at h <;> first | (cases h; done) | (simp [am_nx, Option.bind_eq_some_iff] at h; done) | (split at h <;> first | (cases h; done) | (simp [am_nx, Option.bind_eq_some_iff] at h; done) | (split at h <;> first | (cases h; done) | (simp [am_nx, Option.bind_eq_some_iff] at h; done))))))
  · -- invokevirtual
    rename_i x
    obtain rfl := hln rfl
    split at h
    · first | (cases h; done) | (simp [am_nx, Option.bind_eq_some_iff] at h; done) | (split at h <;> first | (cases h; done) | (simp [am_nx, Option.bind_eq_some_iff] at h; done) | (split at h <;> first | (cases h; done) | (simp [am_nx, Option.bind_eq_some_iff] at h; done) | (split at h <;> first | (cases h; done) | (simp [am_nx, Option.bind_eq_some_iff] at h; done) | (split at h <;> first | (cases h; done) | (simp [am_nx, Option.bind_eq_some_iff] at h; done) | (split at h <;> first | (cases h; done) | (simp [am_nx, Option.bind_eq_some_iff] at h; done))))))
    · rename_i k0 m' n ci r0 hn1
      split at h
      · rename_i b rest hst
        split at h
        · rename_i hz
          obtain ⟨u, hu, h⟩ := Option.bind_eq_some_iff.mp h
          have e9 := Sum.inl.inj (Sum.inr.inj (Option.some.inj h))
          subst e9
          obtain ⟨C, T, N, hcl, h1⟩ := am_lkV0 hn1 (show am_lkV y x (k0 :: m' :: n :: ci :: r0) = true from hlk)
          rcases h1 with ⟨p0, p1, p2, p3, h1⟩ | ⟨p0, p1, p2, p3, p4, h1⟩ | ⟨p0, p1, p2, p3, p4, p5, j, h1⟩
          · exact am_cont (am_callV C0 hcl hdc h1 hst hz.1 hz.2 hu hl hw hS hg hM hR) hS hkv hkx
          · exact am_cont (am_callU C0 hcl hdc h1 hst hz.1 hz.2 hu hl hw hS hg hM hR) hS hkv hkx
          · exact am_cont (am_callO C0 hcl hdc h1 hst hz.1 hz.2 hu hl hw hS hg hM hR) hS hkv hkx
        · cases h
      · cases h
    · cases h
  · -- invokeinterface
    rename_i x cnt
    obtain rfl := hln rfl
    split at h
    · rename_i k0 m' n ci r0
      split at h
      · rename_i b rest hst
        split at h
        · rename_i hz
          obtain ⟨u, hu, h⟩ := Option.bind_eq_some_iff.mp h
          have e9 := Sum.inl.inj (Sum.inr.inj (Option.some.inj h))
          subst e9
          obtain ⟨C, T, N, hcl, p0, p1, p2, p3, h1⟩ := am_lkF0 (show am_lkF y x (k0 :: m' :: n :: ci :: r0) = true from hlk)
          exact am_cont5 (am_callF C0 hcl hdc h1 hst hz.1 hz.2 hu hl hw hS hg hM hR) hS hkv hkx
        · cases h
      · cases h
    · cases h
  · -- invokespecial
    rename_i x
    obtain rfl := hln rfl
    split at h
    · first | (cases h; done) | (simp [am_nx, Option.bind_eq_some_iff] at h; done) | (split at h <;> first | (cases h; done) | (simp [am_nx, Option.bind_eq_some_iff] at h; done) | (split at h <;> first | (cases h; done) | (simp [am_nx, Option.bind_eq_some_iff] at h; done) | (split at h <;> first | (cases h; done) | (simp [am_nx, Option.bind_eq_some_iff] at h; done) | (split at h <;> first | (cases h; done) | (simp [am_nx, Option.bind_eq_some_iff] at h; done) | (split at h <;> first | (cases h; done) | (simp [am_nx, Option.bind_eq_some_iff] at h; done))))))
    · rename_i m' n ci r0
      split at h
      · rename_i b rest hst
        split at h
        · rename_i hz
          obtain ⟨u, hu, h⟩ := Option.bind_eq_some_iff.mp h
          have e9 := Sum.inl.inj (Sum.inr.inj (Option.some.inj h))
          subst e9
          obtain ⟨p0, p1, p2, p3, p4, h1⟩ := am_lkP2 (show am_lkP y x (2 :: m' :: n :: ci :: r0) = true from hlk)
          have hcl : ∃ (C : String) (T : u_T) (N : Nat), am_cl[ci]? = some (C, T, N) := by
            have h2 := h1
            simp only [Bool.and_eq_true, decide_eq_true_eq] at h2
            have h3 : ci < am_cl.length := Nat.lt_of_lt_of_le h2.1.1.1.1.1.1.1 (by decide)
            exact ⟨am_cl[ci].1, am_cl[ci].2.1, am_cl[ci].2.2, List.getElem?_eq_getElem h3⟩
          obtain ⟨C, T, N, hcl⟩ := hcl
          exact am_cont (am_callSU C0 hcl hdc h1 hst hz.1 hz.2 hu hl hw hS hg hM hR) hS hkv hkx
        · cases h
      · cases h
    · rename_i k0 m' n r0 hn1 hn2
      split at h
      · rename_i b rest hst
        split at h
        · rename_i hz
          have e9 := Sum.inl.inj (Sum.inr.inj (Option.some.inj h))
          subst e9
          have hk2 : k0 = 2 → r0 = [] := fun e => by
            cases r0 with
            | nil => rfl
            | cons q t => exact (hn2 q t e rfl).elim
          obtain ⟨p0, p1, p2, h1⟩ := am_lkP0 hn1 hk2 (show am_lkP y x (k0 :: m' :: n :: r0) = true from hlk)
          exact am_cont (am_callI C0 hdc h1 hst hz.1 hz.2 hl hw hS hg hM hR) hS hkv hkx
        · cases h
      · cases h
    · cases h
  · -- invokestatic
    rename_i x
    obtain rfl := hln rfl
    split at h
    · first | (cases h; done) | (simp [am_nx, Option.bind_eq_some_iff] at h; done) | (split at h <;> first | (cases h; done) | (simp [am_nx, Option.bind_eq_some_iff] at h; done) | (split at h <;> first | (cases h; done) | (simp [am_nx, Option.bind_eq_some_iff] at h; done) | (split at h <;> first | (cases h; done) | (simp [am_nx, Option.bind_eq_some_iff] at h; done) | (split at h <;> first | (cases h; done) | (simp [am_nx, Option.bind_eq_some_iff] at h; done) | (split at h <;> first | (cases h; done) | (simp [am_nx, Option.bind_eq_some_iff] at h; done))))))
    · first | (cases h; done) | (simp [am_nx, Option.bind_eq_some_iff] at h; done) | (split at h <;> first | (cases h; done) | (simp [am_nx, Option.bind_eq_some_iff] at h; done) | (split at h <;> first | (cases h; done) | (simp [am_nx, Option.bind_eq_some_iff] at h; done) | (split at h <;> first | (cases h; done) | (simp [am_nx, Option.bind_eq_some_iff] at h; done) | (split at h <;> first | (cases h; done) | (simp [am_nx, Option.bind_eq_some_iff] at h; done) | (split at h <;> first | (cases h; done) | (simp [am_nx, Option.bind_eq_some_iff] at h; done))))))
    · first | (cases h; done) | (simp [am_nx, Option.bind_eq_some_iff] at h; done) | (split at h <;> first | (cases h; done) | (simp [am_nx, Option.bind_eq_some_iff] at h; done) | (split at h <;> first | (cases h; done) | (simp [am_nx, Option.bind_eq_some_iff] at h; done) | (split at h <;> first | (cases h; done) | (simp [am_nx, Option.bind_eq_some_iff] at h; done) | (split at h <;> first | (cases h; done) | (simp [am_nx, Option.bind_eq_some_iff] at h; done) | (split at h <;> first | (cases h; done) | (simp [am_nx, Option.bind_eq_some_iff] at h; done))))))
    · first | (cases h; done) | (simp [am_nx, Option.bind_eq_some_iff] at h; done) | (split at h <;> first | (cases h; done) | (simp [am_nx, Option.bind_eq_some_iff] at h; done) | (split at h <;> first | (cases h; done) | (simp [am_nx, Option.bind_eq_some_iff] at h; done) | (split at h <;> first | (cases h; done) | (simp [am_nx, Option.bind_eq_some_iff] at h; done) | (split at h <;> first | (cases h; done) | (simp [am_nx, Option.bind_eq_some_iff] at h; done) | (split at h <;> first | (cases h; done) | (simp [am_nx, Option.bind_eq_some_iff] at h; done))))))
    · rename_i k0 m' n r0 hn1 hn2 hn3 hn4
      split at h
      · rename_i hz
        have e9 := Sum.inl.inj (Sum.inr.inj (Option.some.inj h))
        subst e9
        obtain ⟨p0, p1, p2, h1⟩ := am_lkS0 hn1 hn2 hn3 hn4 (show am_lkS y x (k0 :: m' :: n :: r0) = true from hlk)
        exact am_cont (am_callS C0 hdc h1 hz.1 hz.2 hl hw hS hg hM hR) hS hkv hkx
      · cases h
    · cases h
  · -- ireturn
    first | (cases h; done) | (simp [am_nx, Option.bind_eq_some_iff] at h; done) | (split at h <;> first | (cases h; done) | (simp [am_nx, Option.bind_eq_some_iff] at h; done) | (split at h <;> first | (cases h; done) | (simp [am_nx, Option.bind_eq_some_iff] at h; done) | (split at h <;> first | (cases h; done) | (simp [am_nx, Option.bind_eq_some_iff] at h; done) | (split at h <;> first | (cases h; done) | (simp [am_nx, Option.bind_eq_some_iff] at h; done) | (split at h <;> first | (cases h; done) | (simp [am_nx, Option.bind_eq_some_iff] at h; done))))))
  · -- lreturn
    first | (cases h; done) | (simp [am_nx, Option.bind_eq_some_iff] at h; done) | (split at h <;> first | (cases h; done) | (simp [am_nx, Option.bind_eq_some_iff] at h; done) | (split at h <;> first | (cases h; done) | (simp [am_nx, Option.bind_eq_some_iff] at h; done) | (split at h <;> first | (cases h; done) | (simp [am_nx, Option.bind_eq_some_iff] at h; done) | (split at h <;> first | (cases h; done) | (simp [am_nx, Option.bind_eq_some_iff] at h; done) | (split at h <;> first | (cases h; done) | (simp [am_nx, Option.bind_eq_some_iff] at h; done))))))
  · -- dreturn
    first | (cases h; done) | (simp [am_nx, Option.bind_eq_some_iff] at h; done) | (split at h <;> first | (cases h; done) | (simp [am_nx, Option.bind_eq_some_iff] at h; done) | (split at h <;> first | (cases h; done) | (simp [am_nx, Option.bind_eq_some_iff] at h; done) | (split at h <;> first | (cases h; done) | (simp [am_nx, Option.bind_eq_some_iff] at h; done) | (split at h <;> first | (cases h; done) | (simp [am_nx, Option.bind_eq_some_iff] at h; done) | (split at h <;> first | (cases h; done) | (simp [am_nx, Option.bind_eq_some_iff] at h; done))))))
  · -- areturn
    first | (cases h; done) | (simp [am_nx, Option.bind_eq_some_iff] at h; done) | (split at h <;> first | (cases h; done) | (simp [am_nx, Option.bind_eq_some_iff] at h; done) | (split at h <;> first | (cases h; done) | (simp [am_nx, Option.bind_eq_some_iff] at h; done) | (split at h <;> first | (cases h; done) | (simp [am_nx, Option.bind_eq_some_iff] at h; done) | (split at h <;> first | (cases h; done) | (simp [am_nx, Option.bind_eq_some_iff] at h; done) | (split at h <;> first | (cases h; done) | (simp [am_nx, Option.bind_eq_some_iff] at h; done))))))
  · -- return_
    first | (cases h; done) | (simp [am_nx, Option.bind_eq_some_iff] at h; done) | (split at h <;> first | (cases h; done) | (simp [am_nx, Option.bind_eq_some_iff] at h; done) | (split at h <;> first | (cases h; done) | (simp [am_nx, Option.bind_eq_some_iff] at h; done) | (split at h <;> first | (cases h; done) | (simp [am_nx, Option.bind_eq_some_iff] at h; done) | (split at h <;> first | (cases h; done) | (simp [am_nx, Option.bind_eq_some_iff] at h; done) | (split at h <;> first | (cases h; done) | (simp [am_nx, Option.bind_eq_some_iff] at h; done))))))
  · -- ELSE
    first | (cases h; done) | (simp [am_nx, Option.bind_eq_some_iff] at h; done) | (split at h <;> first | (cases h; done) | (simp [am_nx, Option.bind_eq_some_iff] at h; done) | (split at h <;> first | (cases h; done) | (simp [am_nx, Option.bind_eq_some_iff] at h; done) | (split at h <;> first | (cases h; done) | (simp [am_nx, Option.bind_eq_some_iff] at h; done) | (split at h <;> first | (cases h; done) | (simp [am_nx, Option.bind_eq_some_iff] at h; done) | (split at h <;> first | (cases h; done) | (simp [am_nx, Option.bind_eq_some_iff] at h; done))))))
theorem am_hs_none {pc : Nat} {E : String} : ∀ {L : List (Nat × Nat × Nat × Nat)}, am_hs pc E L = none → ∀ h ∈ L, ¬ (h.1 ≤ pc ∧ pc < h.2.1 ∧ am_ct h.2.2.2 = E)
  | [], _, h, hm => by cases hm
  | z :: t, hn, h, hm => by
    rw [am_hs] at hn
    split at hn
    · cases hn
    · rename_i hc
      rcases List.mem_cons.mp hm with rfl | hm
      · exact hc
      · exact am_hs_none hn h hm
theorem am_hs_some {pc : Nat} {E : String} {q : Nat} : ∀ {L : List (Nat × Nat × Nat × Nat)}, am_hs pc E L = some q → ∃ (pre : List (Nat × Nat × Nat × Nat)) (h : Nat × Nat × Nat × Nat) (suf : List (Nat × Nat × Nat × Nat)), L = pre ++ h :: suf ∧ (∀ z ∈ pre, ¬ (z.1 ≤ pc ∧ pc < z.2.1 ∧ am_ct z.2.2.2 = E)) ∧ (h.1 ≤ pc ∧ pc < h.2.1 ∧ am_ct h.2.2.2 = E) ∧ h.2.2.1 = q
  | [], hn => by cases hn
  | z :: t, hn => by
    rw [am_hs] at hn
    split at hn
    · rename_i hc
      exact ⟨[], z, t, rfl, fun _ h => (by cases h), hc, Option.some.inj hn⟩
    · rename_i hc
      obtain ⟨pre, h, suf, e1, e2, e3, e4⟩ := am_hs_some hn
      refine ⟨z :: pre, h, suf, by rw [e1]; rfl, fun x hx => ?_, e3, e4⟩
      rcases List.mem_cons.mp hx with rfl | hx
      · exact hc
      · exact e2 x hx
theorem am_kill_all : ∀ (d : List Nat) (l : am_Lc), (∀ i, i < l.length → i ∈ d) → am_al 0 (am_kill d l) = [] := by
  intro d l h
  have h1 : ∀ (d : List Nat) (l : am_Lc) (j : Nat), (j ∈ d ∨ l[j]? = some none ∨ l.length ≤ j) → (am_kill d l)[j]? = some none ∨ l.length ≤ j := by
    intro d
    induction d with
    | nil =>
      intro l j hj
      rcases hj with hj | hj | hj
      · cases hj
      · exact Or.inl hj
      · exact Or.inr hj
    | cons i t ih =>
      intro l j hj
      have h2 := ih (l.set i none) j
      rw [List.length_set] at h2
      apply h2
      by_cases hij : j = i
      · subst hij
        by_cases hl : j < l.length
        · exact Or.inr (Or.inl (List.getElem?_set_self hl))
        · exact Or.inr (Or.inr (Nat.not_lt.mp hl))
      · rcases hj with hj | hj | hj
        · rcases List.mem_cons.mp hj with rfl | hj
          · exact absurd rfl hij
          · exact Or.inl hj
        · exact Or.inr (Or.inl (by rw [List.getElem?_set_ne (fun e => hij e.symm)]; exact hj))
        · exact Or.inr (Or.inr hj)
  have hlen : ∀ (d : List Nat) (l : am_Lc), (am_kill d l).length = l.length := by
    intro d
    induction d with
    | nil => intro l; rfl
    | cons i t ih => intro l; rw [am_kill, ih, List.length_set]
  cases hq : am_al 0 (am_kill d l) with
  | nil => rfl
  | cons q t =>
    obtain ⟨j, u⟩ := q
    have hm : (j, u) ∈ am_al 0 (am_kill d l) := by rw [hq]; exact List.mem_cons_self
    obtain ⟨-, h3⟩ := (am_al_mem _ 0 j u).mp hm
    rw [Nat.sub_zero] at h3
    have hjl : j < l.length := by
      have := (List.getElem?_eq_some_iff.mp h3).1
      rw [hlen] at this; exact this
    rcases h1 d l j (Or.inl (h j hjl)) with h4 | h4
    · rw [h4] at h3; cases h3
    · omega
theorem am_kill_len : ∀ (d : List Nat) (l : am_Lc), (am_kill d l).length = l.length
  | [], _ => rfl
  | i :: t, l => by rw [am_kill, am_kill_len t, List.length_set]
theorem am_hck_ok {y : Nat} (h : am_hck y = true) : ∀ z ∈ am_hh y, z.2.2.2 ≠ 0 ∧ am_ct z.2.2.2 ∈ am_exn ∧ Cond.classLink (am_ow y) z.2.2.2 (am_ct z.2.2.2) ∈ am_aw ∧ ∃ (q : Instr × Nat × List Nat × List Nat) (k : Nat), am_fetch (am_mth y) z.2.2.1 = some q ∧ am_stk q.1 = some k ∧ k < am_ml y ∧ ∀ i, i < am_ml y → i ∈ am_dead y (z.2.2.1 + q.2.1) := by
  intro z hz
  have h1 := List.all_eq_true.mp h z hz
  simp only [Bool.and_eq_true, decide_eq_true_eq] at h1
  obtain ⟨⟨⟨h1, h2⟩, h3⟩, h4⟩ := h1
  refine ⟨h1, h3, h4, ?_⟩
  split at h2
  · rename_i q hq
    split at h2
    · rename_i k hk
      simp only [Bool.and_eq_true, decide_eq_true_eq] at h2
      refine ⟨q, k, hq, hk, h2.1, fun i hi => ?_⟩
      have h5 := List.all_eq_true.mp h2.2 i (List.mem_range.mpr hi)
      exact List.contains_iff_mem.mp h5
    · cases h2
  · cases h2
/-- not caught here, or caught: on -/
theorem am_caught (C0 : am_Cx p l R s m args meth c D dA base sg y) (hokm : am_okm y = true) (hck : am_hck y = true) {E : String} (hE : E ∈ am_exn) {ls : am_Lc} {H' : Heap} {locs' : List Loc} {q : Addr} {ce : Cell} {rest : List Value} {cells slots : Nat} (hl : am_LH lsA (am_ml y) ls) (hce : H'[q]? = some ce) (hcv : ce.vm = .none) (hcl : s.vm.findClass E = some ce.cls)
    (hout : am_hd y pc E = none → vx_W p l e R s m args below meth c H' locs' cells slots Q (F0 m pc lsA rest) q)
    (hin : ∀ (h : Nat) (lsB : Array Slot), am_hd y pc E = some h → am_LH lsB (am_ml y) (am_nrm y h ls) → W p l e R s m args below meth c H' locs' cells slots Q (F0 m h lsB [])) :
    vx_W p l e R s m args below meth c H' locs' cells slots Q (F0 m pc lsA rest) q := by
  obtain ⟨hx, hb, hml, hown, hts, hlocks, hini, hrt, htab, hst, hEn, hRf, hRl⟩ := C0
  have hxt := hEn.2.2.2.2.2.2.2.2.2.2.2
  unfold am_hd at hout hin
  cases hs : am_hs pc E (am_mt y).2.2.2.2.2 with
  | none => exact hout (by rw [hs]; rfl)
  | some h0 =>
    obtain ⟨pre, hz, suf, e1, e2, e3, e4⟩ := am_hs_some hs
    have hmem : hz ∈ am_hh y := by show hz ∈ (am_mt y).2.2.2.2.2; rw [e1]; simp
    obtain ⟨k1, k2, k3, qq, k, k4, k5, k6, k7⟩ := am_hck_ok hck hz hmem
    rw [e4] at k4 k7
    have hd : (am_hs pc E (am_mt y).2.2.2.2.2).bind (fun h => (am_fetch (am_mth y) h).map fun q => h + q.2.1) = some (h0 + qq.2.1) := by
      rw [hs]; show (am_fetch (am_mth y) h0).map _ = _; rw [k4]; rfl
    obtain ⟨hdc, -, hln, -⟩ := am_row hokm k4
    refine vx_catch (own := am_ow y) (name := E) hown (tableOf pre) ⟨hz.1, hz.2.1, hz.2.2.1, hz.2.2.2⟩ (tableOf suf) ?_ ?_ ?_ k1 ?_ (va_any rfl (hxt.2.2.1 _ (am_cst_E hE))) hce hcv hcl ?_
    · rw [htab]
      show tableOf (am_mt y).2.2.2.2.2 = _
      rw [e1]; unfold tableOf; rw [List.map_append, List.map_cons]
    · intro z hzm
      obtain ⟨z0, hz0, rfl⟩ := List.mem_map.mp hzm
      have hzh : z0 ∈ am_hh y := by show z0 ∈ (am_mt y).2.2.2.2.2; rw [e1]; exact List.mem_append_left _ hz0
      obtain ⟨j1, j2, j3, -⟩ := am_hck_ok hck z0 hzh
      have h9 := e2 z0 hz0
      by_cases hcov : z0.1 ≤ pc ∧ pc < z0.2.1
      · refine Or.inr ⟨j1, am_ct z0.2.2.2, hts _ j3, hxt.1 E hE _ j2 (fun e => h9 ⟨hcov.1, hcov.2, e.symm⟩)⟩
      · refine Or.inl ?_
        show (decide (z0.1 ≤ pc) && decide (pc < z0.2.1)) = false
        cases h5 : (decide (z0.1 ≤ pc) && decide (pc < z0.2.1)) with
        | false => rfl
        | true =>
          simp only [Bool.and_eq_true, decide_eq_true_eq] at h5
          exact absurd h5 hcov
    · show (decide (hz.1 ≤ pc) && decide (pc < hz.2.1)) = true
      simp [e3.1, e3.2.1]
    · have h9 := hts _ k3
      rw [e3.2.2] at h9
      exact h9
    · show W p l e R s m args below meth c H' locs' cells slots Q (F0 m hz.2.2.1 lsA [.ref q])
      rw [e4]
      have hlen : (am_nrm y (h0 + qq.2.1) ls).length = am_ml y := by unfold am_nrm; rw [am_kill_len]; exact hl.1
      have hall : am_al 0 (am_nrm y (h0 + qq.2.1) ls) = [] := am_kill_all _ _ (fun i hi => k7 i (by rw [hl.1] at hi; exact hi))
      have hin2 : ∀ lsB : Array Slot, lv_has lsB (am_ml y) [] → am_LH lsB (am_ml y) (am_nrm y (h0 + qq.2.1) ls) := fun lsB hB => ⟨hlen, by rw [hall]; exact hB⟩
      obtain ⟨i, len, an, dd⟩ := qq
      cases i <;> first | (cases k5; done) | skip
      · obtain rfl := Option.some.inj k5
        obtain rfl : len = 2 := hln rfl
        exact lv_astore hx hb hdc hl.2 k6 rfl (fun ls1 hh => hin _ ls1 hd (hin2 ls1 ⟨hh.1, hh.2.1, fun _ h => by cases h⟩))
      · obtain rfl := Option.some.inj k5
        obtain rfl : len = 1 := hln rfl
        exact lv_astore_n hx hb hdc rfl hl.2 k6 rfl (fun ls1 hh => hin _ ls1 hd (hin2 ls1 ⟨hh.1, hh.2.1, fun _ h => by cases h⟩))
end AMU
set_option maxHeartbeats 4000000 in
theorem am_sim {l : Launch} {D : va_G} {dA : Nat → ClassId} {base : Nat} {sg : am_Sg} (hst : l.stackTraces = false) (hok : ∀ y, am_okm y = true) (hck : ∀ y, am_hck y = true) : ∀ n, am_S l D dA base sg n := by
  intro n
  induction n with
  | zero => intro p e R s m args below meth c y pc ls st w r H locs cells slots mc ms lsA h; cases h
  | succ n ih =>
    intro p e R s m args below meth c y pc ls st w r H locs cells slots mc ms lsA h C0 hl hw hS hc hs hmc hms
    rw [am_runN] at h
    split at h
    · cases h
    · rename_i q hq
      obtain ⟨hdc, hlk, hln, hlj⟩ := am_row (hok y) hq
      split at h
      · cases h
      · rename_i a ha
        split at h
        · rename_i hg
          have hge := am_ge_run _ _ _ _ _ _ _ h
          obtain ⟨g1, g2⟩ := hg
          obtain ⟨g3, g4⟩ := hge
          refine am_go C0 hdc hln hlj hlk ha hl hw hS ⟨by omega, by omega⟩ (fun H' locs' lsA' c' s' hc' hs' hl' hw' hS' => ?_)
          exact ih p e R s m args below meth c y a.1 _ _ _ r H' locs' c' s' mc ms lsA' h C0 (am_LH.kill _ hl') hw' hS' (by omega) (by omega) hmc hms
        · cases h
      · rename_i k hk
        split at h
        · rename_i hg
          split at h
          · cases h
          · rename_i r1 hr1
            have hge1 := am_ge_run _ _ _ _ _ _ _ hr1
            obtain ⟨g1, g2⟩ := hge1
            have hE := am_thr _ _ _ _ _ _ _ hr1
            have hge2 : am_ge r1.2 r.2 := by
              split at h
              · exact am_ge_run _ _ _ _ _ _ _ h
              · split at h
                · cases h; exact am_ge_rf _
                · exact am_ge_run _ _ _ _ _ _ _ h
            obtain ⟨g3, g4⟩ := hge2
            refine am_calls C0 hdc hln hlk hk hl hw hS hg.1 (r1 := r1) (fun hpl => am_met hst ih hr1 hg.2 hpl) ⟨by omega, by omega⟩ (fun v hv H' locs' hw' hS' => ?_) (fun E hv H' locs' q ce hw' hS' hce hcv hcl => ?_)
            · rw [hv] at h
              exact ih p e R s m args below meth c y _ _ _ _ r H' locs' _ _ mc ms lsA h C0 (am_LH.kill _ hl) hw' hS' (by omega) (by omega) hmc hms
            · rw [hv] at h
              dsimp only at h
              refine am_caught C0 (hok y) (hck y) (hE E hv) hl hce hcv hcl (fun hn => ?_) (fun h1 lsB hd hB => ?_)
              · rw [hn] at h
                obtain rfl := Option.some.inj h
                obtain ⟨hx, hb, hml, hown, hts, hlocks, hini, hrt, htab, hst0, hEn, hRf, hRl⟩ := C0
                have hxt := hEn.2.2.2.2.2.2.2.2.2.2.2
                refine vx_outP (own := am_ow y) (E := E) hown hlocks ?_ hce hcv hcl (fun t ht hvm => ⟨hv, by rw [ht]; exact hw', hS'.F ht⟩) hS'.2.2 (by omega) (by omega)
                intro z hzm
                rw [htab] at hzm
                obtain ⟨z0, hz0, rfl⟩ := List.mem_map.mp hzm
                obtain ⟨j1, j2, j3, qq, kk, j4, -⟩ := am_hck_ok (hck y) z0 hz0
                by_cases hcov : z0.1 ≤ pc ∧ pc < z0.2.1
                · refine Or.inr ⟨j1, am_ct z0.2.2.2, hts _ j3, hxt.1 E (hE E hv) _ j2 (fun e => ?_)⟩
                  unfold am_hd at hn
                  cases hs9 : am_hs pc E (am_mt y).2.2.2.2.2 with
                  | none => exact am_hs_none hs9 z0 hz0 ⟨hcov.1, hcov.2, e.symm⟩
                  | some h0 =>
                    obtain ⟨pre, hz, suf, e1, e2, e3, e4⟩ := am_hs_some hs9
                    have hmem : hz ∈ am_hh y := by show hz ∈ (am_mt y).2.2.2.2.2; rw [e1]; simp
                    obtain ⟨-, -, -, q2, k2, i4, -⟩ := am_hck_ok (hck y) hz hmem
                    rw [e4] at i4
                    rw [hs9] at hn
                    have hn2 : (am_fetch (am_mth y) h0).map (fun q => h0 + q.2.1) = none := hn
                    rw [i4] at hn2
                    cases hn2
                · refine Or.inl ?_
                  show (decide (z0.1 ≤ pc) && decide (pc < z0.2.1)) = false
                  cases h5 : (decide (z0.1 ≤ pc) && decide (pc < z0.2.1)) with
                  | false => rfl
                  | true =>
                    simp only [Bool.and_eq_true, decide_eq_true_eq] at h5
                    exact absurd h5 hcov
              · rw [hd] at h
                exact ih p e R s m args below meth c y h1 _ _ _ r H' locs' _ _ mc ms lsB h C0 hB hw' hS' (by omega) (by omega) hmc hms
        · cases h
      · rename_i r1 hr1
        split at h
        · obtain rfl := Option.some.inj h
          exact am_end C0 hdc hln hlj hlk hr1 hl hw hS hc hs hmc hms
        · cases h
