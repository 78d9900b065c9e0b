/-! THE ABSTRACT MACHINE'S RUNS ARE THE MACHINE'S: what am_runN comes to, the machine comes to. Mine. -/
def am_Qc (D : va_G) (dA : Nat → ClassId) (base : Nat) (sg : am_Sg) (r : am_Out × am_Wd) : Array Value → State → Outcome → State → Prop := fun _ st oc t => (∃ v, r.1 = .inl v ∧ oc = .returned v) ∧ am_WR D dA base sg r.2 t.heap ∧ va_F (am_A base) st t
def am_XC (D : va_G) (dA : Nat → ClassId) (base : Nat) (sg : am_Sg) (r : am_Out × am_Wd) : String → State → State → Prop := fun E st t => r.1 = .inr E ∧ am_WR D dA base sg r.2 t.heap ∧ va_F (am_A base) st t
def am_Pc (D : va_G) (dA : Nat → ClassId) (base : Nat) (sg : am_Sg) (as : List Value) (w : am_Wd) : Array Value → State → Prop := fun v U => v = as.toArray ∧ am_WR D dA base sg w U.heap ∧ am_Env D dA base sg U U.heap
def am_rm (y k n : Nat) : Room := { frames := 16 + am_hg y, cells := k, slots := n, locals := 400 + 200 * am_hg y }
def am_wsy (y : Nat) : List Cond := am_cw y :: am_aw
theorem am_AOA_moved {ty : FieldType} {u U : State} (hvm : u.vm.Alike U.vm) (h : va_AOA ty u) : va_AOA ty U := by
  have hi : ∀ comp : ClassId, (U.vm.classes.findIdx? fun (x : Class) => match x.kind with | .array component _ => component == comp | _ => false) = (u.vm.classes.findIdx? fun (x : Class) => match x.kind with | .array component _ => component == comp | _ => false) := fun comp => by
    have e1 := va_idx_bare U.vm comp
    have e2 := va_idx_bare u.vm comp
    have e3 : u.vm.bare = U.vm.bare := by first | exact hvm.bare_eq | exact hvm.bare_eq.symm
    rw [e3] at e2
    exact e1.symm.trans e2
  unfold va_AOA Cond.before Cond.holds at h ⊢
  simp only [Cond.value] at h ⊢
  rw [hvm.findClass]
  cases hc : u.vm.findClass (FieldType.array ty).toString with
  | none => rw [hc] at h; exact h
  | some comp =>
    rw [hc, Option.bind_some] at h
    rw [Option.bind_some]
    refine (congrArg (fun o : Option Nat => (o.bind (fun c => (U.vm.classes[c]?).map fun (k : Class) => match k.kind with | .array _ t => decide (t = FieldType.array ty) && decide (U.vm.findClass ("[" ++ (FieldType.array ty).toString) = some c) | _ => false) == some true)) (hi comp)).trans ?_
    cases hq : (u.vm.classes.findIdx? fun (x : Class) => match x.kind with | .array component _ => component == comp | _ => false) with
    | none =>
      have h9 := (congrArg (fun o : Option Nat => (o.bind (fun c => (u.vm.classes[c]?).map fun (k : Class) => match k.kind with | .array _ t => decide (t = FieldType.array ty) && decide (u.vm.findClass ("[" ++ (FieldType.array ty).toString) = some c) | _ => false) == some true)) hq).symm.trans h
      simp at h9
    | some c =>
      have h9 := (congrArg (fun o : Option Nat => (o.bind (fun c => (u.vm.classes[c]?).map fun (k : Class) => match k.kind with | .array _ t => decide (t = FieldType.array ty) && decide (u.vm.findClass ("[" ++ (FieldType.array ty).toString) = some c) | _ => false) == some true)) hq).symm.trans h
      dsimp only [Option.bind_some] at h9 ⊢
      cases hk : u.vm.classes[c]? with
      | none => rw [hk] at h9; simp at h9
      | some k =>
        obtain ⟨k', hk', he⟩ := hvm.2.2 _ _ hk
        have hkind : k'.kind = k.kind := by rw [he]
        rw [hk] at h9
        rw [hk', hvm.findClass]
        simp only [Option.map_some, hkind] at h9 ⊢
        exact h9
theorem am_castM {C T : String} {u U : State} (hvm : u.vm.Alike U.vm) (h : (Cond.castable C T).before #[] u = true) : (Cond.castable C T).before #[] U = true := by
  have tr : ∀ {c : Cond}, c.onTables = true → c.before #[] (u.setVm U.vm) = true → c.before #[] U = true := by
    intro c hc h
    have e := Cond.onTables_vm (A := #[]) (A' := #[]) (U := u) (U' := U) U.vm c hc
    have hU : U.setVm U.vm = U := rfl
    rw [hU] at e
    rw [← e]
    exact h
  exact tr rfl (by rw [Cond.castable_setVm hvm]; exact h)
theorem am_declM {x : MethodName} {u U : State} (hvm : u.vm.Alike U.vm) (h : (Cond.declares x).before #[] u = true) : (Cond.declares x).before #[] U = true := by
  have tr : ∀ {c : Cond}, c.onTables = true → c.before #[] (u.setVm U.vm) = true → c.before #[] U = true := by
    intro c hc h
    have e := Cond.onTables_vm (A := #[]) (A' := #[]) (U := u) (U' := U) U.vm c hc
    have hU : U.setVm U.vm = U := rfl
    rw [hU] at e
    rw [← e]
    exact h
  exact tr rfl (by rw [Cond.declares_setVm hvm]; exact h)
theorem am_ifs_ok : ∀ q ∈ am_ifs, q.2.1.cls ≠ "java/lang/invoke/MethodHandle" ∧ q.2.1.cls ≠ "java/lang/invoke/VarHandle" := by decide +kernel
theorem am_Env.next {D : va_G} {dA : Nat → ClassId} {base : Nat} {sg : am_Sg} {s U : State} {H : Heap} {locs : List Loc} (h : am_Env D dA base sg s s.heap) (hS : va_S (am_A base) s.heap H locs) (hU : U.heap = H) (hW : s.WarmedH U.vm) : am_Env D dA base sg U U.heap := by
  obtain ⟨hK, hnl, hZ1, hZ2, hstr, hO1, hO2, hO3, hbs, hsts, hsti, hx1, hx2, hx3, hx4⟩ := h
  have hvm := hW.alike
  refine ⟨va_K.moved hvm hK, fun w hw => ?_, ?_, ?_, fun q hq => ?_, va_AO.moved hvm hO1, va_AO.moved hvm hO2, ?_, ⟨by rw [hU]; exact Nat.le_trans hbs.1 hS.1, fun a e he => ⟨(hbs.2 a e he).1, by rw [hU]; exact ((hbs.2 a e he).2.kept (hbs.2 a e he).1 hS.2.1).moved hvm⟩⟩, fun z hz => ?_, fun z hz => ?_, fun E hE E' hE' hn => va_Nc.moved hvm (hx1 E hE E' hE' hn), fun q hq => va_Fw.moved (am_ifs_ok q hq) hvm (hx2 q hq), fun q hq => am_castM hvm (hx3 q hq), fun w hw => by
    have h1 := hx4 w hw
    obtain ⟨n, -, rfl⟩ := List.mem_map.mp hw
    exact am_declM hvm h1⟩
  · have h1 := hnl w hw
    have h2 : am_xw w = true := (List.mem_filter.mp hw).2
    cases w <;> first | (cases h2; done) | exact va_Nw.warmF hW h1 | exact va_Nw.warmM hW h1
  · rw [hU]; exact vx_Zq.moved hvm (hZ1.kept hS.2.1)
  · rw [hU]; exact vx_Zq.moved hvm (hZ2.kept hS.2.1)
  · obtain ⟨a, e1, e2⟩ := hstr q hq
    exact ⟨a, e1, e2.warm hW⟩
  · exact am_AOA_moved hvm hO3
  · rw [hU]; exact va_Z.moved hvm ((hsts z hz).kept hS.2.1)
  · rw [hU]; exact va_Z.moved hvm ((hsti z hz).kept hS.2.1)
theorem am_Pc_blind {D : va_G} {dA : Nat → ClassId} {base : Nat} {sg : am_Sg} {as : List Value} {w : am_Wd} : FrameBlind (am_Pc D dA base sg as w) := by
  intro a U g mk h
  obtain ⟨h1, h2, h3⟩ := h
  exact ⟨h1, h2, h3.next (H := U.heap) va_S.rf rfl (State.WarmedH.refl U)⟩
theorem am_xp_sl : ∀ (as : List Value), (lg_sl as).length = (am_xp as).length
  | [] => rfl
  | v :: t => by
    have ih := am_xp_sl t
    unfold lg_sl at ih ⊢
    rw [List.flatMap_cons, am_xp]
    cases hv : am_c2 v with
    | true =>
      rw [if_pos ((am_c2_cat v).mp hv)]
      simp only [List.length_append, List.length_cons, List.length_nil, cond_true]
      omega
    | false =>
      rw [if_neg (fun q => by rw [(am_c2_cat v).mpr q] at hv; cases hv)]
      simp only [List.length_append, List.length_cons, List.length_nil, cond_false]
      omega
theorem am_xp_args : ∀ (as : List Value) (k i j : Nat) (u : Value), (am_xp as ++ List.replicate k none)[j]? = some (some u) → (i + j, u) ∈ lv_args i as
  | [], k, i, j, u, h => by
    simp only [am_xp, List.nil_append] at h
    rw [List.getElem?_replicate] at h
    split at h <;> cases h
  | v :: t, k, i, j, u, h => by
    rw [am_xp] at h
    rw [lv_args]
    cases hv : am_c2 v with
    | true =>
      rw [hv] at h
      rw [if_pos ((am_c2_cat v).mp hv)]
      simp only [cond_true, List.cons_append] at h
      cases j with
      | zero => simp at h; subst h; exact List.mem_cons_self
      | succ j => cases j with
        | zero => simp at h
        | succ j =>
          simp only [List.getElem?_cons_succ] at h
          have h2 := am_xp_args t k (i + 2) j u h
          rw [show i + 2 + j = i + (j + 1 + 1) by omega] at h2
          exact List.mem_cons_of_mem _ h2
    | false =>
      rw [hv] at h
      rw [if_neg (fun q => by rw [(am_c2_cat v).mpr q] at hv; cases hv)]
      simp only [cond_false, List.cons_append] at h
      cases j with
      | zero => simp at h; subst h; exact List.mem_cons_self
      | succ j =>
        simp only [List.getElem?_cons_succ] at h
        have h2 := am_xp_args t k (i + 1) j u h
        rw [show i + 1 + j = i + (j + 1) by omega] at h2
        exact List.mem_cons_of_mem _ h2
theorem am_ent_LH {y : Nat} {as : List Value} (h : (am_xp as).length ≤ am_ml y) : am_LH ((lg_sl as ++ List.replicate (am_ml y - (lg_sl as).length) Slot.unset).toArray) (am_ml y) (am_ent y as) := by
  have h1 := lv_entry as (n := am_ml y) (by rw [am_xp_sl]; exact h)
  refine am_LH.kill _ ⟨by simp; omega, h1.1, h1.2.1, fun q hq => ?_⟩
  obtain ⟨j, u⟩ := q
  obtain ⟨-, h2⟩ := (am_al_mem _ 0 j u).mp hq
  rw [Nat.sub_zero] at h2
  have h3 := am_xp_args as _ 0 j u h2
  rw [Nat.zero_add] at h3
  exact h1.2.2 _ h3
theorem am_gd (y : Nat) (h : am_cw y ∈ am_aw) : GoodIn am_aw (am_wsy y) := by
  have h0 : ∀ w ∈ am_wsy y, w ∈ am_aw := fun w hw => by
    rcases List.mem_cons.mp hw with rfl | h1
    · exact h
    · exact h1
  exact goodIn_sub h0 (List.all_eq_true.mpr fun w hw => (List.mem_filter.mp (h0 w hw)).2)
section AMS
variable {p : Program} {l : Launch} {e : Env} {R : Room} {s : State} {m : MethodId} {args : Array Value} {below : List Frame} {meth : Method} {c : Code} {H : Heap} {locs : List Loc} {cells slots : Nat}
variable {pc : Nat} {lsA : Array Slot} {D : va_G} {dA : Nat → ClassId} {base : Nat} {sg : am_Sg} {y : Nat}
theorem am_br_no (c : Bool) (pc : Nat) (o : Int) (ls : am_Lc) (st : List Value) (w : am_Wd) (z : (Nat × List Value × Nat × List Value) ⊕ (am_Out × am_Wd)) : ¬ am_br c pc o ls st w = some (.inr z) := by
  intro h
  unfold am_br at h
  split at h
  · obtain ⟨t, -, h⟩ := Option.bind_eq_some_iff.mp h
    simp [am_nx] at h
  · simp [am_nx] at h
theorem am_ths_ok : ∀ q ∈ am_ths, ∀ w ∈ vx_atS q.1 q.2.1 q.2.2 am_tnm, w ∈ am_aw ∨ w = .castable q.2.2 q.2.2 ∨ w ∈ am_dcl := by
  decide +kernel
theorem am_ths_in : ∀ q ∈ am_ths, q.2.2 ∈ am_exn := by decide +kernel
theorem am_ot {w : Cond} (h : w ∈ am_aw) : vx_ot w = true := by
  have h1 := (List.mem_filter.mp h).2
  unfold vx_ot
  rw [h1, Bool.or_true]
theorem am_fit : Bundle.fit (am_xn 0) = true ∧ Bundle.fit (am_xn 1) = true ∧ Bundle.fit (am_xn 2) = true ∧ ∀ n ∈ am_tnm, Bundle.fit n = true := by decide +kernel
theorem am_fitx (z : Nat) : Bundle.fit (am_xn z) = true := by
  unfold am_xn
  split
  · exact am_fit.1
  · split
    · exact am_fit.2.1
    · exact am_fit.2.2.1
set_option maxHeartbeats 8000000 in
set_option maxRecDepth 100000 in
/-- the end: an answer, or a throw of its own -/
theorem am_end (C0 : am_Cx p l R s m args meth c D dA base sg y) {i : Instr} {len : Nat} {an : List Nat} (hdc : decode (am_by y) pc = .ok (i, len)) (hln : am_isw i = false → len = am_il i) (hlj : am_lj y pc i an = true) (hlk : am_lk y i an = true) {ls : am_Lc} {st : List Value} {w : am_Wd} {r : am_Out × am_Wd} (h : am_stp pc i an ls st w = some (.inr (.inr r)))
    (hl : am_LH lsA (am_ml y) ls) (hw : am_WR D dA base sg w H) (hS : va_S (am_A base) s.heap H locs) {mc ms : Nat} (hc : cells + (r.2.2.1 - w.2.1) ≤ mc) (hs : slots + (r.2.2.2.1 - w.2.2.1) ≤ ms) (hmc : mc ≤ R.cells) (hms : ms ≤ R.slots) :
    W p l e R s m args below meth c H locs cells slots (vx_MQ below (am_Qc D dA base sg r) (am_XC D dA base sg r) args s mc ms (am_A base)) (F0 m pc lsA st) := by
  obtain ⟨hx, hb, hml, hown, hts, hlocks, hini, hrt, htab, hst, ⟨hK, hnl, hZ1, hZ2, hstr, hO1, hO2, hO3, hbs, hsts, hsti, hxt⟩, hRf, hRl⟩ := C0
  have hsz : lsA.size = c.maxLocals := by rw [hml]; exact hl.2.1
  have hc0 : cells ≤ mc := by omega
  have hs0 : slots ≤ ms := by omega
  unfold am_stp at h
  split at h
  · -- iconst
    first | (cases h; done) | (simp [am_nx, Option.bind_eq_some_iff] at h; done) | (split at h <;> first | (cases h; done) | (simp [am_nx, Option.bind_eq_some_iff] at h; done) | (split at h <;> first | (cases h; done) | (simp [am_nx, Option.bind_eq_some_iff] at h; done) | (split at h <;> first | (cases h; done) | (simp [am_nx, Option.bind_eq_some_iff] at h; done) | (split at h <;> first | (cases h; done) | (simp [am_nx, Option.bind_eq_some_iff] at h; done) | (split at h <;> first | (cases h; done) | (simp [am_nx, Option.bind_eq_some_iff] at h; done))))))
  · -- bipush
    first | (cases h; done) | (simp [am_nx, Option.bind_eq_some_iff] at h; done) | (split at h <;> first | (cases h; done) | (simp [am_nx, Option.bind_eq_some_iff] at h; done) | (split at h <;> first | (cases h; done) | (simp [am_nx, Option.bind_eq_some_iff] at h; done) | (split at h <;> first | (cases h; done) | (simp [am_nx, Option.bind_eq_some_iff] at h; done) | (split at h <;> first | (cases h; done) | (simp [am_nx, Option.bind_eq_some_iff] at h; done) | (split at h <;> first | (cases h; done) | (simp [am_nx, Option.bind_eq_some_iff] at h; done))))))
  · -- sipush
    first | (cases h; done) | (simp [am_nx, Option.bind_eq_some_iff] at h; done) | (split at h <;> first | (cases h; done) | (simp [am_nx, Option.bind_eq_some_iff] at h; done) | (split at h <;> first | (cases h; done) | (simp [am_nx, Option.bind_eq_some_iff] at h; done) | (split at h <;> first | (cases h; done) | (simp [am_nx, Option.bind_eq_some_iff] at h; done) | (split at h <;> first | (cases h; done) | (simp [am_nx, Option.bind_eq_some_iff] at h; done) | (split at h <;> first | (cases h; done) | (simp [am_nx, Option.bind_eq_some_iff] at h; done))))))
  · -- lconst
    first | (cases h; done) | (simp [am_nx, Option.bind_eq_some_iff] at h; done) | (split at h <;> first | (cases h; done) | (simp [am_nx, Option.bind_eq_some_iff] at h; done) | (split at h <;> first | (cases h; done) | (simp [am_nx, Option.bind_eq_some_iff] at h; done) | (split at h <;> first | (cases h; done) | (simp [am_nx, Option.bind_eq_some_iff] at h; done) | (split at h <;> first | (cases h; done) | (simp [am_nx, Option.bind_eq_some_iff] at h; done) | (split at h <;> first | (cases h; done) | (simp [am_nx, Option.bind_eq_some_iff] at h; done))))))
  · -- dconst
    first | (cases h; done) | (simp [am_nx, Option.bind_eq_some_iff] at h; done) | (split at h <;> first | (cases h; done) | (simp [am_nx, Option.bind_eq_some_iff] at h; done) | (split at h <;> first | (cases h; done) | (simp [am_nx, Option.bind_eq_some_iff] at h; done) | (split at h <;> first | (cases h; done) | (simp [am_nx, Option.bind_eq_some_iff] at h; done) | (split at h <;> first | (cases h; done) | (simp [am_nx, Option.bind_eq_some_iff] at h; done) | (split at h <;> first | (cases h; done) | (simp [am_nx, Option.bind_eq_some_iff] at h; done))))))
  · -- aconst_null
    first | (cases h; done) | (simp [am_nx, Option.bind_eq_some_iff] at h; done) | (split at h <;> first | (cases h; done) | (simp [am_nx, Option.bind_eq_some_iff] at h; done) | (split at h <;> first | (cases h; done) | (simp [am_nx, Option.bind_eq_some_iff] at h; done) | (split at h <;> first | (cases h; done) | (simp [am_nx, Option.bind_eq_some_iff] at h; done) | (split at h <;> first | (cases h; done) | (simp [am_nx, Option.bind_eq_some_iff] at h; done) | (split at h <;> first | (cases h; done) | (simp [am_nx, Option.bind_eq_some_iff] at h; done))))))
  · -- ldc
    first | (cases h; done) | (simp [am_nx, Option.bind_eq_some_iff] at h; done) | (split at h <;> first | (cases h; done) | (simp [am_nx, Option.bind_eq_some_iff] at h; done) | (split at h <;> first | (cases h; done) | (simp [am_nx, Option.bind_eq_some_iff] at h; done) | (split at h <;> first | (cases h; done) | (simp [am_nx, Option.bind_eq_some_iff] at h; done) | (split at h <;> first | (cases h; done) | (simp [am_nx, Option.bind_eq_some_iff] at h; done) | (split at h <;> first | (cases h; done) | (simp [am_nx, Option.bind_eq_some_iff] at h; done))))))
  · -- ldc_w
    first | (cases h; done) | (simp [am_nx, Option.bind_eq_some_iff] at h; done) | (split at h <;> first | (cases h; done) | (simp [am_nx, Option.bind_eq_some_iff] at h; done) | (split at h <;> first | (cases h; done) | (simp [am_nx, Option.bind_eq_some_iff] at h; done) | (split at h <;> first | (cases h; done) | (simp [am_nx, Option.bind_eq_some_iff] at h; done) | (split at h <;> first | (cases h; done) | (simp [am_nx, Option.bind_eq_some_iff] at h; done) | (split at h <;> first | (cases h; done) | (simp [am_nx, Option.bind_eq_some_iff] at h; done))))))
  · -- ldc2_w
    first | (cases h; done) | (simp [am_nx, Option.bind_eq_some_iff] at h; done) | (split at h <;> first | (cases h; done) | (simp [am_nx, Option.bind_eq_some_iff] at h; done) | (split at h <;> first | (cases h; done) | (simp [am_nx, Option.bind_eq_some_iff] at h; done) | (split at h <;> first | (cases h; done) | (simp [am_nx, Option.bind_eq_some_iff] at h; done) | (split at h <;> first | (cases h; done) | (simp [am_nx, Option.bind_eq_some_iff] at h; done) | (split at h <;> first | (cases h; done) | (simp [am_nx, Option.bind_eq_some_iff] at h; done))))))
  · -- iload
    first | (cases h; done) | (simp [am_nx, Option.bind_eq_some_iff] at h; done) | (split at h <;> first | (cases h; done) | (simp [am_nx, Option.bind_eq_some_iff] at h; done) | (split at h <;> first | (cases h; done) | (simp [am_nx, Option.bind_eq_some_iff] at h; done) | (split at h <;> first | (cases h; done) | (simp [am_nx, Option.bind_eq_some_iff] at h; done) | (split at h <;> first | (cases h; done) | (simp [am_nx, Option.bind_eq_some_iff] at h; done) | (split at h <;> first | (cases h; done) | (simp [am_nx, Option.bind_eq_some_iff] at h; done))))))
  · -- iload_n
    first | (cases h; done) | (simp [am_nx, Option.bind_eq_some_iff] at h; done) | (split at h <;> first | (cases h; done) | (simp [am_nx, Option.bind_eq_some_iff] at h; done) | (split at h <;> first | (cases h; done) | (simp [am_nx, Option.bind_eq_some_iff] at h; done) | (split at h <;> first | (cases h; done) | (simp [am_nx, Option.bind_eq_some_iff] at h; done) | (split at h <;> first | (cases h; done) | (simp [am_nx, Option.bind_eq_some_iff] at h; done) | (split at h <;> first | (cases h; done) | (simp [am_nx, Option.bind_eq_some_iff] at h; done))))))
  · -- lload
    first | (cases h; done) | (simp [am_nx, Option.bind_eq_some_iff] at h; done) | (split at h <;> first | (cases h; done) | (simp [am_nx, Option.bind_eq_some_iff] at h; done) | (split at h <;> first | (cases h; done) | (simp [am_nx, Option.bind_eq_some_iff] at h; done) | (split at h <;> first | (cases h; done) | (simp [am_nx, Option.bind_eq_some_iff] at h; done) | (split at h <;> first | (cases h; done) | (simp [am_nx, Option.bind_eq_some_iff] at h; done) | (split at h <;> first | (cases h; done) | (simp [am_nx, Option.bind_eq_some_iff] at h; done))))))
  · -- lload_n
    first | (cases h; done) | (simp [am_nx, Option.bind_eq_some_iff] at h; done) | (split at h <;> first | (cases h; done) | (simp [am_nx, Option.bind_eq_some_iff] at h; done) | (split at h <;> first | (cases h; done) | (simp [am_nx, Option.bind_eq_some_iff] at h; done) | (split at h <;> first | (cases h; done) | (simp [am_nx, Option.bind_eq_some_iff] at h; done) | (split at h <;> first | (cases h; done) | (simp [am_nx, Option.bind_eq_some_iff] at h; done) | (split at h <;> first | (cases h; done) | (simp [am_nx, Option.bind_eq_some_iff] at h; done))))))
  · -- dload
    first | (cases h; done) | (simp [am_nx, Option.bind_eq_some_iff] at h; done) | (split at h <;> first | (cases h; done) | (simp [am_nx, Option.bind_eq_some_iff] at h; done) | (split at h <;> first | (cases h; done) | (simp [am_nx, Option.bind_eq_some_iff] at h; done) | (split at h <;> first | (cases h; done) | (simp [am_nx, Option.bind_eq_some_iff] at h; done) | (split at h <;> first | (cases h; done) | (simp [am_nx, Option.bind_eq_some_iff] at h; done) | (split at h <;> first | (cases h; done) | (simp [am_nx, Option.bind_eq_some_iff] at h; done))))))
  · -- aload
    first | (cases h; done) | (simp [am_nx, Option.bind_eq_some_iff] at h; done) | (split at h <;> first | (cases h; done) | (simp [am_nx, Option.bind_eq_some_iff] at h; done) | (split at h <;> first | (cases h; done) | (simp [am_nx, Option.bind_eq_some_iff] at h; done) | (split at h <;> first | (cases h; done) | (simp [am_nx, Option.bind_eq_some_iff] at h; done) | (split at h <;> first | (cases h; done) | (simp [am_nx, Option.bind_eq_some_iff] at h; done) | (split at h <;> first | (cases h; done) | (simp [am_nx, Option.bind_eq_some_iff] at h; done))))))
  · -- aload_n
    first | (cases h; done) | (simp [am_nx, Option.bind_eq_some_iff] at h; done) | (split at h <;> first | (cases h; done) | (simp [am_nx, Option.bind_eq_some_iff] at h; done) | (split at h <;> first | (cases h; done) | (simp [am_nx, Option.bind_eq_some_iff] at h; done) | (split at h <;> first | (cases h; done) | (simp [am_nx, Option.bind_eq_some_iff] at h; done) | (split at h <;> first | (cases h; done) | (simp [am_nx, Option.bind_eq_some_iff] at h; done) | (split at h <;> first | (cases h; done) | (simp [am_nx, Option.bind_eq_some_iff] at h; done))))))
  · -- istore
    first | (cases h; done) | (simp [am_nx, Option.bind_eq_some_iff] at h; done) | (split at h <;> first | (cases h; done) | (simp [am_nx, Option.bind_eq_some_iff] at h; done) | (split at h <;> first | (cases h; done) | (simp [am_nx, Option.bind_eq_some_iff] at h; done) | (split at h <;> first | (cases h; done) | (simp [am_nx, Option.bind_eq_some_iff] at h; done) | (split at h <;> first | (cases h; done) | (simp [am_nx, Option.bind_eq_some_iff] at h; done) | (split at h <;> first | (cases h; done) | (simp [am_nx, Option.bind_eq_some_iff] at h; done))))))
  · -- istore_n
    first | (cases h; done) | (simp [am_nx, Option.bind_eq_some_iff] at h; done) | (split at h <;> first | (cases h; done) | (simp [am_nx, Option.bind_eq_some_iff] at h; done) | (split at h <;> first | (cases h; done) | (simp [am_nx, Option.bind_eq_some_iff] at h; done) | (split at h <;> first | (cases h; done) | (simp [am_nx, Option.bind_eq_some_iff] at h; done) | (split at h <;> first | (cases h; done) | (simp [am_nx, Option.bind_eq_some_iff] at h; done) | (split at h <;> first | (cases h; done) | (simp [am_nx, Option.bind_eq_some_iff] at h; done))))))
  · -- lstore
    first | (cases h; done) | (simp [am_nx, Option.bind_eq_some_iff] at h; done) | (split at h <;> first | (cases h; done) | (simp [am_nx, Option.bind_eq_some_iff] at h; done) | (split at h <;> first | (cases h; done) | (simp [am_nx, Option.bind_eq_some_iff] at h; done) | (split at h <;> first | (cases h; done) | (simp [am_nx, Option.bind_eq_some_iff] at h; done) | (split at h <;> first | (cases h; done) | (simp [am_nx, Option.bind_eq_some_iff] at h; done) | (split at h <;> first | (cases h; done) | (simp [am_nx, Option.bind_eq_some_iff] at h; done))))))
  · -- lstore_n
    first | (cases h; done) | (simp [am_nx, Option.bind_eq_some_iff] at h; done) | (split at h <;> first | (cases h; done) | (simp [am_nx, Option.bind_eq_some_iff] at h; done) | (split at h <;> first | (cases h; done) | (simp [am_nx, Option.bind_eq_some_iff] at h; done) | (split at h <;> first | (cases h; done) | (simp [am_nx, Option.bind_eq_some_iff] at h; done) | (split at h <;> first | (cases h; done) | (simp [am_nx, Option.bind_eq_some_iff] at h; done) | (split at h <;> first | (cases h; done) | (simp [am_nx, Option.bind_eq_some_iff] at h; done))))))
  · -- dstore
    first | (cases h; done) | (simp [am_nx, Option.bind_eq_some_iff] at h; done) | (split at h <;> first | (cases h; done) | (simp [am_nx, Option.bind_eq_some_iff] at h; done) | (split at h <;> first | (cases h; done) | (simp [am_nx, Option.bind_eq_some_iff] at h; done) | (split at h <;> first | (cases h; done) | (simp [am_nx, Option.bind_eq_some_iff] at h; done) | (split at h <;> first | (cases h; done) | (simp [am_nx, Option.bind_eq_some_iff] at h; done) | (split at h <;> first | (cases h; done) | (simp [am_nx, Option.bind_eq_some_iff] at h; done))))))
  · -- astore
    first | (cases h; done) | (simp [am_nx, Option.bind_eq_some_iff] at h; done) | (split at h <;> first | (cases h; done) | (simp [am_nx, Option.bind_eq_some_iff] at h; done) | (split at h <;> first | (cases h; done) | (simp [am_nx, Option.bind_eq_some_iff] at h; done) | (split at h <;> first | (cases h; done) | (simp [am_nx, Option.bind_eq_some_iff] at h; done) | (split at h <;> first | (cases h; done) | (simp [am_nx, Option.bind_eq_some_iff] at h; done) | (split at h <;> first | (cases h; done) | (simp [am_nx, Option.bind_eq_some_iff] at h; done))))))
  · -- astore_n
    first | (cases h; done) | (simp [am_nx, Option.bind_eq_some_iff] at h; done) | (split at h <;> first | (cases h; done) | (simp [am_nx, Option.bind_eq_some_iff] at h; done) | (split at h <;> first | (cases h; done) | (simp [am_nx, Option.bind_eq_some_iff] at h; done) | (split at h <;> first | (cases h; done) | (simp [am_nx, Option.bind_eq_some_iff] at h; done) | (split at h <;> first | (cases h; done) | (simp [am_nx, Option.bind_eq_some_iff] at h; done) | (split at h <;> first | (cases h; done) | (simp [am_nx, Option.bind_eq_some_iff] at h; done))))))
  · -- iinc
    first | (cases h; done) | (simp [am_nx, Option.bind_eq_some_iff] at h; done) | (split at h <;> first | (cases h; done) | (simp [am_nx, Option.bind_eq_some_iff] at h; done) | (split at h <;> first | (cases h; done) | (simp [am_nx, Option.bind_eq_some_iff] at h; done) | (split at h <;> first | (cases h; done) | (simp [am_nx, Option.bind_eq_some_iff] at h; done) | (split at h <;> first | (cases h; done) | (simp [am_nx, Option.bind_eq_some_iff] at h; done) | (split at h <;> first | (cases h; done) | (simp [am_nx, Option.bind_eq_some_iff] at h; done))))))
  · -- iadd
    first | (cases h; done) | (simp [am_nx, Option.bind_eq_some_iff] at h; done) | (split at h <;> first | (cases h; done) | (simp [am_nx, Option.bind_eq_some_iff] at h; done) | (split at h <;> first | (cases h; done) | (simp [am_nx, Option.bind_eq_some_iff] at h; done) | (split at h <;> first | (cases h; done) | (simp [am_nx, Option.bind_eq_some_iff] at h; done) | (split at h <;> first | (cases h; done) | (simp [am_nx, Option.bind_eq_some_iff] at h; done) | (split at h <;> first | (cases h; done) | (simp [am_nx, Option.bind_eq_some_iff] at h; done))))))
  · -- isub
    first | (cases h; done) | (simp [am_nx, Option.bind_eq_some_iff] at h; done) | (split at h <;> first | (cases h; done) | (simp [am_nx, Option.bind_eq_some_iff] at h; done) | (split at h <;> first | (cases h; done) | (simp [am_nx, Option.bind_eq_some_iff] at h; done) | (split at h <;> first | (cases h; done) | (simp [am_nx, Option.bind_eq_some_iff] at h; done) | (split at h <;> first | (cases h; done) | (simp [am_nx, Option.bind_eq_some_iff] at h; done) | (split at h <;> first | (cases h; done) | (simp [am_nx, Option.bind_eq_some_iff] at h; done))))))
  · -- imul
    first | (cases h; done) | (simp [am_nx, Option.bind_eq_some_iff] at h; done) | (split at h <;> first | (cases h; done) | (simp [am_nx, Option.bind_eq_some_iff] at h; done) | (split at h <;> first | (cases h; done) | (simp [am_nx, Option.bind_eq_some_iff] at h; done) | (split at h <;> first | (cases h; done) | (simp [am_nx, Option.bind_eq_some_iff] at h; done) | (split at h <;> first | (cases h; done) | (simp [am_nx, Option.bind_eq_some_iff] at h; done) | (split at h <;> first | (cases h; done) | (simp [am_nx, Option.bind_eq_some_iff] at h; done))))))
  · -- idiv
    first | (cases h; done) | (simp [am_nx, Option.bind_eq_some_iff] at h; done) | (split at h <;> first | (cases h; done) | (simp [am_nx, Option.bind_eq_some_iff] at h; done) | (split at h <;> first | (cases h; done) | (simp [am_nx, Option.bind_eq_some_iff] at h; done) | (split at h <;> first | (cases h; done) | (simp [am_nx, Option.bind_eq_some_iff] at h; done) | (split at h <;> first | (cases h; done) | (simp [am_nx, Option.bind_eq_some_iff] at h; done) | (split at h <;> first | (cases h; done) | (simp [am_nx, Option.bind_eq_some_iff] at h; done))))))
  · -- irem
    first | (cases h; done) | (simp [am_nx, Option.bind_eq_some_iff] at h; done) | (split at h <;> first | (cases h; done) | (simp [am_nx, Option.bind_eq_some_iff] at h; done) | (split at h <;> first | (cases h; done) | (simp [am_nx, Option.bind_eq_some_iff] at h; done) | (split at h <;> first | (cases h; done) | (simp [am_nx, Option.bind_eq_some_iff] at h; done) | (split at h <;> first | (cases h; done) | (simp [am_nx, Option.bind_eq_some_iff] at h; done) | (split at h <;> first | (cases h; done) | (simp [am_nx, Option.bind_eq_some_iff] at h; done))))))
  · -- ineg
    first | (cases h; done) | (simp [am_nx, Option.bind_eq_some_iff] at h; done) | (split at h <;> first | (cases h; done) | (simp [am_nx, Option.bind_eq_some_iff] at h; done) | (split at h <;> first | (cases h; done) | (simp [am_nx, Option.bind_eq_some_iff] at h; done) | (split at h <;> first | (cases h; done) | (simp [am_nx, Option.bind_eq_some_iff] at h; done) | (split at h <;> first | (cases h; done) | (simp [am_nx, Option.bind_eq_some_iff] at h; done) | (split at h <;> first | (cases h; done) | (simp [am_nx, Option.bind_eq_some_iff] at h; done))))))
  · -- iand
    first | (cases h; done) | (simp [am_nx, Option.bind_eq_some_iff] at h; done) | (split at h <;> first | (cases h; done) | (simp [am_nx, Option.bind_eq_some_iff] at h; done) | (split at h <;> first | (cases h; done) | (simp [am_nx, Option.bind_eq_some_iff] at h; done) | (split at h <;> first | (cases h; done) | (simp [am_nx, Option.bind_eq_some_iff] at h; done) | (split at h <;> first | (cases h; done) | (simp [am_nx, Option.bind_eq_some_iff] at h; done) | (split at h <;> first | (cases h; done) | (simp [am_nx, Option.bind_eq_some_iff] at h; done))))))
  · -- ior
    first | (cases h; done) | (simp [am_nx, Option.bind_eq_some_iff] at h; done) | (split at h <;> first | (cases h; done) | (simp [am_nx, Option.bind_eq_some_iff] at h; done) | (split at h <;> first | (cases h; done) | (simp [am_nx, Option.bind_eq_some_iff] at h; done) | (split at h <;> first | (cases h; done) | (simp [am_nx, Option.bind_eq_some_iff] at h; done) | (split at h <;> first | (cases h; done) | (simp [am_nx, Option.bind_eq_some_iff] at h; done) | (split at h <;> first | (cases h; done) | (simp [am_nx, Option.bind_eq_some_iff] at h; done))))))
  · -- ixor
    first | (cases h; done) | (simp [am_nx, Option.bind_eq_some_iff] at h; done) | (split at h <;> first | (cases h; done) | (simp [am_nx, Option.bind_eq_some_iff] at h; done) | (split at h <;> first | (cases h; done) | (simp [am_nx, Option.bind_eq_some_iff] at h; done) | (split at h <;> first | (cases h; done) | (simp [am_nx, Option.bind_eq_some_iff] at h; done) | (split at h <;> first | (cases h; done) | (simp [am_nx, Option.bind_eq_some_iff] at h; done) | (split at h <;> first | (cases h; done) | (simp [am_nx, Option.bind_eq_some_iff] at h; done))))))
  · -- ishl
    first | (cases h; done) | (simp [am_nx, Option.bind_eq_some_iff] at h; done) | (split at h <;> first | (cases h; done) | (simp [am_nx, Option.bind_eq_some_iff] at h; done) | (split at h <;> first | (cases h; done) | (simp [am_nx, Option.bind_eq_some_iff] at h; done) | (split at h <;> first | (cases h; done) | (simp [am_nx, Option.bind_eq_some_iff] at h; done) | (split at h <;> first | (cases h; done) | (simp [am_nx, Option.bind_eq_some_iff] at h; done) | (split at h <;> first | (cases h; done) | (simp [am_nx, Option.bind_eq_some_iff] at h; done))))))
  · -- ishr
    first | (cases h; done) | (simp [am_nx, Option.bind_eq_some_iff] at h; done) | (split at h <;> first | (cases h; done) | (simp [am_nx, Option.bind_eq_some_iff] at h; done) | (split at h <;> first | (cases h; done) | (simp [am_nx, Option.bind_eq_some_iff] at h; done) | (split at h <;> first | (cases h; done) | (simp [am_nx, Option.bind_eq_some_iff] at h; done) | (split at h <;> first | (cases h; done) | (simp [am_nx, Option.bind_eq_some_iff] at h; done) | (split at h <;> first | (cases h; done) | (simp [am_nx, Option.bind_eq_some_iff] at h; done))))))
  · -- iushr
    first | (cases h; done) | (simp [am_nx, Option.bind_eq_some_iff] at h; done) | (split at h <;> first | (cases h; done) | (simp [am_nx, Option.bind_eq_some_iff] at h; done) | (split at h <;> first | (cases h; done) | (simp [am_nx, Option.bind_eq_some_iff] at h; done) | (split at h <;> first | (cases h; done) | (simp [am_nx, Option.bind_eq_some_iff] at h; done) | (split at h <;> first | (cases h; done) | (simp [am_nx, Option.bind_eq_some_iff] at h; done) | (split at h <;> first | (cases h; done) | (simp [am_nx, Option.bind_eq_some_iff] at h; done))))))
  · -- ladd
    first | (cases h; done) | (simp [am_nx, Option.bind_eq_some_iff] at h; done) | (split at h <;> first | (cases h; done) | (simp [am_nx, Option.bind_eq_some_iff] at h; done) | (split at h <;> first | (cases h; done) | (simp [am_nx, Option.bind_eq_some_iff] at h; done) | (split at h <;> first | (cases h; done) | (simp [am_nx, Option.bind_eq_some_iff] at h; done) | (split at h <;> first | (cases h; done) | (simp [am_nx, Option.bind_eq_some_iff] at h; done) | (split at h <;> first | (cases h; done) | (simp [am_nx, Option.bind_eq_some_iff] at h; done))))))
  · -- lsub
    first | (cases h; done) | (simp [am_nx, Option.bind_eq_some_iff] at h; done) | (split at h <;> first | (cases h; done) | (simp [am_nx, Option.bind_eq_some_iff] at h; done) | (split at h <;> first | (cases h; done) | (simp [am_nx, Option.bind_eq_some_iff] at h; done) | (split at h <;> first | (cases h; done) | (simp [am_nx, Option.bind_eq_some_iff] at h; done) | (split at h <;> first | (cases h; done) | (simp [am_nx, Option.bind_eq_some_iff] at h; done) | (split at h <;> first | (cases h; done) | (simp [am_nx, Option.bind_eq_some_iff] at h; done))))))
  · -- lmul
    first | (cases h; done) | (simp [am_nx, Option.bind_eq_some_iff] at h; done) | (split at h <;> first | (cases h; done) | (simp [am_nx, Option.bind_eq_some_iff] at h; done) | (split at h <;> first | (cases h; done) | (simp [am_nx, Option.bind_eq_some_iff] at h; done) | (split at h <;> first | (cases h; done) | (simp [am_nx, Option.bind_eq_some_iff] at h; done) | (split at h <;> first | (cases h; done) | (simp [am_nx, Option.bind_eq_some_iff] at h; done) | (split at h <;> first | (cases h; done) | (simp [am_nx, Option.bind_eq_some_iff] at h; done))))))
  · -- land
    first | (cases h; done) | (simp [am_nx, Option.bind_eq_some_iff] at h; done) | (split at h <;> first | (cases h; done) | (simp [am_nx, Option.bind_eq_some_iff] at h; done) | (split at h <;> first | (cases h; done) | (simp [am_nx, Option.bind_eq_some_iff] at h; done) | (split at h <;> first | (cases h; done) | (simp [am_nx, Option.bind_eq_some_iff] at h; done) | (split at h <;> first | (cases h; done) | (simp [am_nx, Option.bind_eq_some_iff] at h; done) | (split at h <;> first | (cases h; done) | (simp [am_nx, Option.bind_eq_some_iff] at h; done))))))
  · -- lor
    first | (cases h; done) | (simp [am_nx, Option.bind_eq_some_iff] at h; done) | (split at h <;> first | (cases h; done) | (simp [am_nx, Option.bind_eq_some_iff] at h; done) | (split at h <;> first | (cases h; done) | (simp [am_nx, Option.bind_eq_some_iff] at h; done) | (split at h <;> first | (cases h; done) | (simp [am_nx, Option.bind_eq_some_iff] at h; done) | (split at h <;> first | (cases h; done) | (simp [am_nx, Option.bind_eq_some_iff] at h; done) | (split at h <;> first | (cases h; done) | (simp [am_nx, Option.bind_eq_some_iff] at h; done))))))
  · -- lxor
    first | (cases h; done) | (simp [am_nx, Option.bind_eq_some_iff] at h; done) | (split at h <;> first | (cases h; done) | (simp [am_nx, Option.bind_eq_some_iff] at h; done) | (split at h <;> first | (cases h; done) | (simp [am_nx, Option.bind_eq_some_iff] at h; done) | (split at h <;> first | (cases h; done) | (simp [am_nx, Option.bind_eq_some_iff] at h; done) | (split at h <;> first | (cases h; done) | (simp [am_nx, Option.bind_eq_some_iff] at h; done) | (split at h <;> first | (cases h; done) | (simp [am_nx, Option.bind_eq_some_iff] at h; done))))))
  · -- lshl
    first | (cases h; done) | (simp [am_nx, Option.bind_eq_some_iff] at h; done) | (split at h <;> first | (cases h; done) | (simp [am_nx, Option.bind_eq_some_iff] at h; done) | (split at h <;> first | (cases h; done) | (simp [am_nx, Option.bind_eq_some_iff] at h; done) | (split at h <;> first | (cases h; done) | (simp [am_nx, Option.bind_eq_some_iff] at h; done) | (split at h <;> first | (cases h; done) | (simp [am_nx, Option.bind_eq_some_iff] at h; done) | (split at h <;> first | (cases h; done) | (simp [am_nx, Option.bind_eq_some_iff] at h; done))))))
  · -- lushr
    first | (cases h; done) | (simp [am_nx, Option.bind_eq_some_iff] at h; done) | (split at h <;> first | (cases h; done) | (simp [am_nx, Option.bind_eq_some_iff] at h; done) | (split at h <;> first | (cases h; done) | (simp [am_nx, Option.bind_eq_some_iff] at h; done) | (split at h <;> first | (cases h; done) | (simp [am_nx, Option.bind_eq_some_iff] at h; done) | (split at h <;> first | (cases h; done) | (simp [am_nx, Option.bind_eq_some_iff] at h; done) | (split at h <;> first | (cases h; done) | (simp [am_nx, Option.bind_eq_some_iff] at h; done))))))
  · -- lcmp
    first | (cases h; done) | (simp [am_nx, Option.bind_eq_some_iff] at h; done) | (split at h <;> first | (cases h; done) | (simp [am_nx, Option.bind_eq_some_iff] at h; done) | (split at h <;> first | (cases h; done) | (simp [am_nx, Option.bind_eq_some_iff] at h; done) | (split at h <;> first | (cases h; done) | (simp [am_nx, Option.bind_eq_some_iff] at h; done) | (split at h <;> first | (cases h; done) | (simp [am_nx, Option.bind_eq_some_iff] at h; done) | (split at h <;> first | (cases h; done) | (simp [am_nx, Option.bind_eq_some_iff] at h; done))))))
  · -- i2l
    first | (cases h; done) | (simp [am_nx, Option.bind_eq_some_iff] at h; done) | (split at h <;> first | (cases h; done) | (simp [am_nx, Option.bind_eq_some_iff] at h; done) | (split at h <;> first | (cases h; done) | (simp [am_nx, Option.bind_eq_some_iff] at h; done) | (split at h <;> first | (cases h; done) | (simp [am_nx, Option.bind_eq_some_iff] at h; done) | (split at h <;> first | (cases h; done) | (simp [am_nx, Option.bind_eq_some_iff] at h; done) | (split at h <;> first | (cases h; done) | (simp [am_nx, Option.bind_eq_some_iff] at h; done))))))
  · -- l2i
    first | (cases h; done) | (simp [am_nx, Option.bind_eq_some_iff] at h; done) | (split at h <;> first | (cases h; done) | (simp [am_nx, Option.bind_eq_some_iff] at h; done) | (split at h <;> first | (cases h; done) | (simp [am_nx, Option.bind_eq_some_iff] at h; done) | (split at h <;> first | (cases h; done) | (simp [am_nx, Option.bind_eq_some_iff] at h; done) | (split at h <;> first | (cases h; done) | (simp [am_nx, Option.bind_eq_some_iff] at h; done) | (split at h <;> first | (cases h; done) | (simp [am_nx, Option.bind_eq_some_iff] at h; done))))))
  · -- i2b
    first | (cases h; done) | (simp [am_nx, Option.bind_eq_some_iff] at h; done) | (split at h <;> first | (cases h; done) | (simp [am_nx, Option.bind_eq_some_iff] at h; done) | (split at h <;> first | (cases h; done) | (simp [am_nx, Option.bind_eq_some_iff] at h; done) | (split at h <;> first | (cases h; done) | (simp [am_nx, Option.bind_eq_some_iff] at h; done) | (split at h <;> first | (cases h; done) | (simp [am_nx, Option.bind_eq_some_iff] at h; done) | (split at h <;> first | (cases h; done) | (simp [am_nx, Option.bind_eq_some_iff] at h; done))))))
  · -- i2c
    first | (cases h; done) | (simp [am_nx, Option.bind_eq_some_iff] at h; done) | (split at h <;> first | (cases h; done) | (simp [am_nx, Option.bind_eq_some_iff] at h; done) | (split at h <;> first | (cases h; done) | (simp [am_nx, Option.bind_eq_some_iff] at h; done) | (split at h <;> first | (cases h; done) | (simp [am_nx, Option.bind_eq_some_iff] at h; done) | (split at h <;> first | (cases h; done) | (simp [am_nx, Option.bind_eq_some_iff] at h; done) | (split at h <;> first | (cases h; done) | (simp [am_nx, Option.bind_eq_some_iff] at h; done))))))
  · -- i2d
    first | (cases h; done) | (simp [am_nx, Option.bind_eq_some_iff] at h; done) | (split at h <;> first | (cases h; done) | (simp [am_nx, Option.bind_eq_some_iff] at h; done) | (split at h <;> first | (cases h; done) | (simp [am_nx, Option.bind_eq_some_iff] at h; done) | (split at h <;> first | (cases h; done) | (simp [am_nx, Option.bind_eq_some_iff] at h; done) | (split at h <;> first | (cases h; done) | (simp [am_nx, Option.bind_eq_some_iff] at h; done) | (split at h <;> first | (cases h; done) | (simp [am_nx, Option.bind_eq_some_iff] at h; done))))))
  · -- d2l
    first | (cases h; done) | (simp [am_nx, Option.bind_eq_some_iff] at h; done) | (split at h <;> first | (cases h; done) | (simp [am_nx, Option.bind_eq_some_iff] at h; done) | (split at h <;> first | (cases h; done) | (simp [am_nx, Option.bind_eq_some_iff] at h; done) | (split at h <;> first | (cases h; done) | (simp [am_nx, Option.bind_eq_some_iff] at h; done) | (split at h <;> first | (cases h; done) | (simp [am_nx, Option.bind_eq_some_iff] at h; done) | (split at h <;> first | (cases h; done) | (simp [am_nx, Option.bind_eq_some_iff] at h; done))))))
  · -- ddiv
    first | (cases h; done) | (simp [am_nx, Option.bind_eq_some_iff] at h; done) | (split at h <;> first | (cases h; done) | (simp [am_nx, Option.bind_eq_some_iff] at h; done) | (split at h <;> first | (cases h; done) | (simp [am_nx, Option.bind_eq_some_iff] at h; done) | (split at h <;> first | (cases h; done) | (simp [am_nx, Option.bind_eq_some_iff] at h; done) | (split at h <;> first | (cases h; done) | (simp [am_nx, Option.bind_eq_some_iff] at h; done) | (split at h <;> first | (cases h; done) | (simp [am_nx, Option.bind_eq_some_iff] at h; done))))))
  · -- dmul
    first | (cases h; done) | (simp [am_nx, Option.bind_eq_some_iff] at h; done) | (split at h <;> first | (cases h; done) | (simp [am_nx, Option.bind_eq_some_iff] at h; done) | (split at h <;> first | (cases h; done) | (simp [am_nx, Option.bind_eq_some_iff] at h; done) | (split at h <;> first | (cases h; done) | (simp [am_nx, Option.bind_eq_some_iff] at h; done) | (split at h <;> first | (cases h; done) | (simp [am_nx, Option.bind_eq_some_iff] at h; done) | (split at h <;> first | (cases h; done) | (simp [am_nx, Option.bind_eq_some_iff] at h; done))))))
  · -- dcmp
    first | (cases h; done) | (simp [am_nx, Option.bind_eq_some_iff] at h; done) | (split at h <;> first | (cases h; done) | (simp [am_nx, Option.bind_eq_some_iff] at h; done) | (split at h <;> first | (cases h; done) | (simp [am_nx, Option.bind_eq_some_iff] at h; done) | (split at h <;> first | (cases h; done) | (simp [am_nx, Option.bind_eq_some_iff] at h; done) | (split at h <;> first | (cases h; done) | (simp [am_nx, Option.bind_eq_some_iff] at h; done) | (split at h <;> first | (cases h; done) | (simp [am_nx, Option.bind_eq_some_iff] at h; done))))))
  · -- dup
    first | (cases h; done) | (simp [am_nx, Option.bind_eq_some_iff] at h; done) | (split at h <;> first | (cases h; done) | (simp [am_nx, Option.bind_eq_some_iff] at h; done) | (split at h <;> first | (cases h; done) | (simp [am_nx, Option.bind_eq_some_iff] at h; done) | (split at h <;> first | (cases h; done) | (simp [am_nx, Option.bind_eq_some_iff] at h; done) | (split at h <;> first | (cases h; done) | (simp [am_nx, Option.bind_eq_some_iff] at h; done) | (split at h <;> first | (cases h; done) | (simp [am_nx, Option.bind_eq_some_iff] at h; done))))))
  · -- dup_x1
    first | (cases h; done) | (simp [am_nx, Option.bind_eq_some_iff] at h; done) | (split at h <;> first | (cases h; done) | (simp [am_nx, Option.bind_eq_some_iff] at h; done) | (split at h <;> first | (cases h; done) | (simp [am_nx, Option.bind_eq_some_iff] at h; done) | (split at h <;> first | (cases h; done) | (simp [am_nx, Option.bind_eq_some_iff] at h; done) | (split at h <;> first | (cases h; done) | (simp [am_nx, Option.bind_eq_some_iff] at h; done) | (split at h <;> first | (cases h; done) | (simp [am_nx, Option.bind_eq_some_iff] at h; done))))))
  · -- dup2
    first | (cases h; done) | (simp [am_nx, Option.bind_eq_some_iff] at h; done) | (split at h <;> first | (cases h; done) | (simp [am_nx, Option.bind_eq_some_iff] at h; done) | (split at h <;> first | (cases h; done) | (simp [am_nx, Option.bind_eq_some_iff] at h; done) | (split at h <;> first | (cases h; done) | (simp [am_nx, Option.bind_eq_some_iff] at h; done) | (split at h <;> first | (cases h; done) | (simp [am_nx, Option.bind_eq_some_iff] at h; done) | (split at h <;> first | (cases h; done) | (simp [am_nx, Option.bind_eq_some_iff] at h; done))))))
  · -- pop
    first | (cases h; done) | (simp [am_nx, Option.bind_eq_some_iff] at h; done) | (split at h <;> first | (cases h; done) | (simp [am_nx, Option.bind_eq_some_iff] at h; done) | (split at h <;> first | (cases h; done) | (simp [am_nx, Option.bind_eq_some_iff] at h; done) | (split at h <;> first | (cases h; done) | (simp [am_nx, Option.bind_eq_some_iff] at h; done) | (split at h <;> first | (cases h; done) | (simp [am_nx, Option.bind_eq_some_iff] at h; done) | (split at h <;> first | (cases h; done) | (simp [am_nx, Option.bind_eq_some_iff] at h; done))))))
  · -- pop2
    first | (cases h; done) | (simp [am_nx, Option.bind_eq_some_iff] at h; done) | (split at h <;> first | (cases h; done) | (simp [am_nx, Option.bind_eq_some_iff] at h; done) | (split at h <;> first | (cases h; done) | (simp [am_nx, Option.bind_eq_some_iff] at h; done) | (split at h <;> first | (cases h; done) | (simp [am_nx, Option.bind_eq_some_iff] at h; done) | (split at h <;> first | (cases h; done) | (simp [am_nx, Option.bind_eq_some_iff] at h; done) | (split at h <;> first | (cases h; done) | (simp [am_nx, Option.bind_eq_some_iff] at h; done))))))
  · -- goto
    first | (cases h; done) | (simp [am_nx, Option.bind_eq_some_iff] at h; done) | (split at h <;> first | (cases h; done) | (simp [am_nx, Option.bind_eq_some_iff] at h; done) | (split at h <;> first | (cases h; done) | (simp [am_nx, Option.bind_eq_some_iff] at h; done) | (split at h <;> first | (cases h; done) | (simp [am_nx, Option.bind_eq_some_iff] at h; done) | (split at h <;> first | (cases h; done) | (simp [am_nx, Option.bind_eq_some_iff] at h; done) | (split at h <;> first | (cases h; done) | (simp [am_nx, Option.bind_eq_some_iff] at h; done))))))
  · -- ifCond
    split at h
    · exact absurd h (am_br_no _ _ _ _ _ _ _)
    · cases h
  · -- if_icmp
    split at h
    · exact absurd h (am_br_no _ _ _ _ _ _ _)
    · cases h
  · -- if_acmp
    split at h
    · exact absurd h (am_br_no _ _ _ _ _ _ _)
    · cases h
  · -- ifnull
    first | (cases h; done) | (simp [am_nx, Option.bind_eq_some_iff] at h; done) | (split at h <;> first | (cases h; done) | (simp [am_nx, Option.bind_eq_some_iff] at h; done) | (split at h <;> first | (cases h; done) | (simp [am_nx, Option.bind_eq_some_iff] at h; done) | (split at h <;> first | (cases h; done) | (simp [am_nx, Option.bind_eq_some_iff] at h; done) | (split at h <;> first | (cases h; done) | (simp [am_nx, Option.bind_eq_some_iff] at h; done) | (split at h <;> first | (cases h; done) | (simp [am_nx, Option.bind_eq_some_iff] at h; done))))))
  · -- ifnonnull
    first | (cases h; done) | (simp [am_nx, Option.bind_eq_some_iff] at h; done) | (split at h <;> first | (cases h; done) | (simp [am_nx, Option.bind_eq_some_iff] at h; done) | (split at h <;> first | (cases h; done) | (simp [am_nx, Option.bind_eq_some_iff] at h; done) | (split at h <;> first | (cases h; done) | (simp [am_nx, Option.bind_eq_some_iff] at h; done) | (split at h <;> first | (cases h; done) | (simp [am_nx, Option.bind_eq_some_iff] at h; done) | (split at h <;> first | (cases h; done) | (simp [am_nx, Option.bind_eq_some_iff] at h; done))))))
  · -- lookupswitch
    first | (cases h; done) | (simp [am_nx, Option.bind_eq_some_iff] at h; done) | (split at h <;> first | (cases h; done) | (simp [am_nx, Option.bind_eq_some_iff] at h; done) | (split at h <;> first | (cases h; done) | (simp [am_nx, Option.bind_eq_some_iff] at h; done) | (split at h <;> first | (cases h; done) | (simp [am_nx, Option.bind_eq_some_iff] at h; done) | (split at h <;> first | (cases h; done) | (simp [am_nx, Option.bind_eq_some_iff] at h; done) | (split at h <;> first | (cases h; done) | (simp [am_nx, Option.bind_eq_some_iff] at h; done))))))
  · -- tableswitch
    first | (cases h; done) | (simp [am_nx, Option.bind_eq_some_iff] at h; done) | (split at h <;> first | (cases h; done) | (simp [am_nx, Option.bind_eq_some_iff] at h; done) | (split at h <;> first | (cases h; done) | (simp [am_nx, Option.bind_eq_some_iff] at h; done) | (split at h <;> first | (cases h; done) | (simp [am_nx, Option.bind_eq_some_iff] at h; done) | (split at h <;> first | (cases h; done) | (simp [am_nx, Option.bind_eq_some_iff] at h; done) | (split at h <;> first | (cases h; done) | (simp [am_nx, Option.bind_eq_some_iff] at h; done))))))
  · -- getfield
    first | (cases h; done) | (simp [am_nx, Option.bind_eq_some_iff] at h; done) | (split at h <;> first | (cases h; done) | (simp [am_nx, Option.bind_eq_some_iff] at h; done) | (split at h <;> first | (cases h; done) | (simp [am_nx, Option.bind_eq_some_iff] at h; done) | (split at h <;> first | (cases h; done) | (simp [am_nx, Option.bind_eq_some_iff] at h; done) | (split at h <;> first | (cases h; done) | (simp [am_nx, Option.bind_eq_some_iff] at h; done) | (split at h <;> first | (cases h; done) | (simp [am_nx, Option.bind_eq_some_iff] at h; done))))))
  · -- putfield
    first | (cases h; done) | (simp [am_nx, Option.bind_eq_some_iff] at h; done) | (split at h <;> first | (cases h; done) | (simp [am_nx, Option.bind_eq_some_iff] at h; done) | (split at h <;> first | (cases h; done) | (simp [am_nx, Option.bind_eq_some_iff] at h; done) | (split at h <;> first | (cases h; done) | (simp [am_nx, Option.bind_eq_some_iff] at h; done) | (split at h <;> first | (cases h; done) | (simp [am_nx, Option.bind_eq_some_iff] at h; done) | (split at h <;> first | (cases h; done) | (simp [am_nx, Option.bind_eq_some_iff] at h; done))))))
  · -- getstatic
    first | (cases h; done) | (simp [am_nx, Option.bind_eq_some_iff] at h; done) | (split at h <;> first | (cases h; done) | (simp [am_nx, Option.bind_eq_some_iff] at h; done) | (split at h <;> first | (cases h; done) | (simp [am_nx, Option.bind_eq_some_iff] at h; done) | (split at h <;> first | (cases h; done) | (simp [am_nx, Option.bind_eq_some_iff] at h; done) | (split at h <;> first | (cases h; done) | (simp [am_nx, Option.bind_eq_some_iff] at h; done) | (split at h <;> first | (cases h; done) | (simp [am_nx, Option.bind_eq_some_iff] at h; done))))))
  · -- iaload
    first | (cases h; done) | (simp [am_nx, Option.bind_eq_some_iff] at h; done) | (split at h <;> first | (cases h; done) | (simp [am_nx, Option.bind_eq_some_iff] at h; done) | (split at h <;> first | (cases h; done) | (simp [am_nx, Option.bind_eq_some_iff] at h; done) | (split at h <;> first | (cases h; done) | (simp [am_nx, Option.bind_eq_some_iff] at h; done) | (split at h <;> first | (cases h; done) | (simp [am_nx, Option.bind_eq_some_iff] at h; done) | (split at h <;> first | (cases h; done) | (simp [am_nx, Option.bind_eq_some_iff] at h; done))))))
  · -- baload
    first | (cases h; done) | (simp [am_nx, Option.bind_eq_some_iff] at h; done) | (split at h <;> first | (cases h; done) | (simp [am_nx, Option.bind_eq_some_iff] at h; done) | (split at h <;> first | (cases h; done) | (simp [am_nx, Option.bind_eq_some_iff] at h; done) | (split at h <;> first | (cases h; done) | (simp [am_nx, Option.bind_eq_some_iff] at h; done) | (split at h <;> first | (cases h; done) | (simp [am_nx, Option.bind_eq_some_iff] at h; done) | (split at h <;> first | (cases h; done) | (simp [am_nx, Option.bind_eq_some_iff] at h; done))))))
  · -- laload
    first | (cases h; done) | (simp [am_nx, Option.bind_eq_some_iff] at h; done) | (split at h <;> first | (cases h; done) | (simp [am_nx, Option.bind_eq_some_iff] at h; done) | (split at h <;> first | (cases h; done) | (simp [am_nx, Option.bind_eq_some_iff] at h; done) | (split at h <;> first | (cases h; done) | (simp [am_nx, Option.bind_eq_some_iff] at h; done) | (split at h <;> first | (cases h; done) | (simp [am_nx, Option.bind_eq_some_iff] at h; done) | (split at h <;> first | (cases h; done) | (simp [am_nx, Option.bind_eq_some_iff] at h; done))))))
  · -- aaload
    first | (cases h; done) | (simp [am_nx, Option.bind_eq_some_iff] at h; done) | (split at h <;> first | (cases h; done) | (simp [am_nx, Option.bind_eq_some_iff] at h; done) | (split at h <;> first | (cases h; done) | (simp [am_nx, Option.bind_eq_some_iff] at h; done) | (split at h <;> first | (cases h; done) | (simp [am_nx, Option.bind_eq_some_iff] at h; done) | (split at h <;> first | (cases h; done) | (simp [am_nx, Option.bind_eq_some_iff] at h; done) | (split at h <;> first | (cases h; done) | (simp [am_nx, Option.bind_eq_some_iff] at h; done))))))
  · -- iastore
    first | (cases h; done) | (simp [am_nx, Option.bind_eq_some_iff] at h; done) | (split at h <;> first | (cases h; done) | (simp [am_nx, Option.bind_eq_some_iff] at h; done) | (split at h <;> first | (cases h; done) | (simp [am_nx, Option.bind_eq_some_iff] at h; done) | (split at h <;> first | (cases h; done) | (simp [am_nx, Option.bind_eq_some_iff] at h; done) | (split at h <;> first | (cases h; done) | (simp [am_nx, Option.bind_eq_some_iff] at h; done) | (split at h <;> first | (cases h; done) | (simp [am_nx, Option.bind_eq_some_iff] at h; done))))))
  · -- bastore
    first | (cases h; done) | (simp [am_nx, Option.bind_eq_some_iff] at h; done) | (split at h <;> first | (cases h; done) | (simp [am_nx, Option.bind_eq_some_iff] at h; done) | (split at h <;> first | (cases h; done) | (simp [am_nx, Option.bind_eq_some_iff] at h; done) | (split at h <;> first | (cases h; done) | (simp [am_nx, Option.bind_eq_some_iff] at h; done) | (split at h <;> first | (cases h; done) | (simp [am_nx, Option.bind_eq_some_iff] at h; done) | (split at h <;> first | (cases h; done) | (simp [am_nx, Option.bind_eq_some_iff] at h; done))))))
  · -- lastore
    first | (cases h; done) | (simp [am_nx, Option.bind_eq_some_iff] at h; done) | (split at h <;> first | (cases h; done) | (simp [am_nx, Option.bind_eq_some_iff] at h; done) | (split at h <;> first | (cases h; done) | (simp [am_nx, Option.bind_eq_some_iff] at h; done) | (split at h <;> first | (cases h; done) | (simp [am_nx, Option.bind_eq_some_iff] at h; done) | (split at h <;> first | (cases h; done) | (simp [am_nx, Option.bind_eq_some_iff] at h; done) | (split at h <;> first | (cases h; done) | (simp [am_nx, Option.bind_eq_some_iff] at h; done))))))
  · -- aastore
    first | (cases h; done) | (simp [am_nx, Option.bind_eq_some_iff] at h; done) | (split at h <;> first | (cases h; done) | (simp [am_nx, Option.bind_eq_some_iff] at h; done) | (split at h <;> first | (cases h; done) | (simp [am_nx, Option.bind_eq_some_iff] at h; done) | (split at h <;> first | (cases h; done) | (simp [am_nx, Option.bind_eq_some_iff] at h; done) | (split at h <;> first | (cases h; done) | (simp [am_nx, Option.bind_eq_some_iff] at h; done) | (split at h <;> first | (cases h; done) | (simp [am_nx, Option.bind_eq_some_iff] at h; done))))))
  · -- arraylength
    first | (cases h; done) | (simp [am_nx, Option.bind_eq_some_iff] at h; done) | (split at h <;> first | (cases h; done) | (simp [am_nx, Option.bind_eq_some_iff] at h; done) | (split at h <;> first | (cases h; done) | (simp [am_nx, Option.bind_eq_some_iff] at h; done) | (split at h <;> first | (cases h; done) | (simp [am_nx, Option.bind_eq_some_iff] at h; done) | (split at h <;> first | (cases h; done) | (simp [am_nx, Option.bind_eq_some_iff] at h; done) | (split at h <;> first | (cases h; done) | (simp [am_nx, Option.bind_eq_some_iff] at h; done))))))
  · -- newarray
    first | (cases h; done) | (simp [am_nx, Option.bind_eq_some_iff] at h; done) | (split at h <;> first | (cases h; done) | (simp [am_nx, Option.bind_eq_some_iff] at h; done) | (split at h <;> first | (cases h; done) | (simp [am_nx, Option.bind_eq_some_iff] at h; done) | (split at h <;> first | (cases h; done) | (simp [am_nx, Option.bind_eq_some_iff] at h; done) | (split at h <;> first | (cases h; done) | (simp [am_nx, Option.bind_eq_some_iff] at h; done) | (split at h <;> first | (cases h; done) | (simp [am_nx, Option.bind_eq_some_iff] at h; done))))))
  · -- anewarray
    first | (cases h; done) | (simp [am_nx, Option.bind_eq_some_iff] at h; done) | (split at h <;> first | (cases h; done) | (simp [am_nx, Option.bind_eq_some_iff] at h; done) | (split at h <;> first | (cases h; done) | (simp [am_nx, Option.bind_eq_some_iff] at h; done) | (split at h <;> first | (cases h; done) | (simp [am_nx, Option.bind_eq_some_iff] at h; done) | (split at h <;> first | (cases h; done) | (simp [am_nx, Option.bind_eq_some_iff] at h; done) | (split at h <;> first | (cases h; done) | (simp [am_nx, Option.bind_eq_some_iff] at h; done))))))
  · -- multianewarray
    first | (cases h; done) | (simp [am_nx, Option.bind_eq_some_iff] at h; done) | (split at h <;> first | (cases h; done) | (simp [am_nx, Option.bind_eq_some_iff] at h; done) | (split at h <;> first | (cases h; done) | (simp [am_nx, Option.bind_eq_some_iff] at h; done) | (split at h <;> first | (cases h; done) | (simp [am_nx, Option.bind_eq_some_iff] at h; done) | (split at h <;> first | (cases h; done) | (simp [am_nx, Option.bind_eq_some_iff] at h; done) | (split at h <;> first | (cases h; done) | (simp [am_nx, Option.bind_eq_some_iff] at h; done))))))
  · -- new
    rename_i x
    obtain rfl := hln rfl
    split at h
    · cases h
    · rename_i k z r0 hk0
      split at h
      · rename_i hz8
        have e9 : r = (.inr (am_xn z), am_jk w 1 6) := (Sum.inr.inj (Sum.inr.inj (Option.some.inj h))).symm
        subst e9
        have hlN : am_lkN y x (k :: z :: r0) = true := hlk
        unfold am_lkN at hlN
        have hz := hw.1
        have hx9 : ∀ t : State, s.vm.Alike t.vm → t.heap.size = H.size + 1 → (∀ q : Nat, q < H.size → t.heap[q]? = H[q]?) → am_XC D dA base sg (.inr (am_xn z), am_jk w 1 6) (am_xn z) s t := fun t _ h1 h2 =>
          ⟨rfl, hw.jk h1 h2, ⟨by rw [h1]; exact Nat.le_trans hS.1 (Nat.le_succ _), fun q q1 q2 => (h2 q (Nat.lt_of_lt_of_le q1 hS.1)).trans (hS.2.1 q q1 q2)⟩⟩
        have hm1 : cells + 1 ≤ mc := by have e1 : (am_jk w 1 6).2.1 - w.2.1 = 1 := by show w.2.1 + 1 - w.2.1 = 1; omega
                                        dsimp only at hc; rw [e1] at hc; exact hc
        have hm6 : slots + 6 ≤ ms := by have e1 : (am_jk w 1 6).2.2.1 - w.2.2.1 = 6 := by show w.2.2.1 + 6 - w.2.2.1 = 6; omega
                                        dsimp only at hs; rw [e1] at hs; exact hs
        split at hlN
        · rename_i q; cases q; exfalso; simp at hk0
        · rename_i q; cases q
        · rename_i q1 q; cases q; exact absurd hlN (by simp)
        · rename_i k1 z1 p1 p2 p3 is ic r9 _ q
          simp only [List.cons.injEq] at q
          obtain ⟨rfl, rfl, rfl⟩ := q
          simp only [Bool.and_eq_true, decide_eq_true_eq] at hlN
          obtain ⟨⟨⟨⟨⟨hk12, hhh⟩, l1⟩, l2⟩, l3⟩, l4⟩ := hlN
          obtain ⟨qs, hqs, l4⟩ := List.any_eq_true.mp l4
          simp only [decide_eq_true_eq] at l4
          obtain ⟨a0, f1, f2⟩ := hstr qs hqs
          rw [l4.1, l4.2] at f2
          have hat : ∀ w ∈ vx_atS (am_ow y) ic (am_xn z) am_tnm, w ∈ am_aw ∨ w = .castable (am_xn z) (am_xn z) ∨ w ∈ am_dcl := am_ths_ok _ l3
          have hatb : ∀ w ∈ vx_atS (am_ow y) ic (am_xn z) am_tnm, w.before args s = true := fun w hw => by
            rcases hat w hw with h1 | h1 | h1
            · exact hts w h1
            · subst h1
              exact va_any rfl (hxt.2.2.1 _ (am_cst_E (am_ths_in _ l3)))
            · have h2 := hxt.2.2.2 w h1
              obtain ⟨n, -, rfl⟩ := List.mem_map.mp h1
              exact va_any rfl h2
          have htb : ∀ x ∈ c.exceptionTable.toList, False := by rw [htab, hhh]; intro x hx; cases hx
          have hgood : ∀ w ∈ Cond.classLink (am_ow y) x (am_xn z) :: Cond.initialized (am_xn z) :: vx_atS (am_ow y) ic (am_xn z) am_tnm, vx_ot w = true := fun w hw => by
            rcases List.mem_cons.mp hw with rfl | hw
            · exact am_ot (am_lw_ok l1)
            · rcases List.mem_cons.mp hw with rfl | hw
              · exact am_ot (am_lw_ok l2)
              · rcases hat w hw with h1 | h1 | h1
                · exact am_ot h1
                · subst h1; rfl
                · obtain ⟨n, -, rfl⟩ := List.mem_map.mp h1; rfl
          rcases hk12 with rfl | rfl
          · have hj : (decide (decode (am_by y) (pc + 3) = .ok (.dup, 1)) && decide (decode (am_by y) (pc + 4) = .ok (.ldc is, 2)) && decide (decode (am_by y) (pc + 6) = .ok (.invokespecial ic, 3)) && decide (decode (am_by y) (pc + 9) = .ok (.athrow, 1))) = true := hlj
            simp only [Bool.and_eq_true, decide_eq_true_eq] at hj
            exact am_throwS hx hb hst hown (am_fitx z) am_fit.2.2.2 (hts _ (am_lw_ok l1)) (hts _ (am_lw_ok l2)) f2 hatb hgood hZ1 hZ2 hS hsz hdc hj.1.1.1 hj.1.1.2 hj.1.2 hj.2 (fun x hx => (htb x hx).elim) (by show 2 + 3 < _; omega) (by show am_sz st + (13 * (2 + 1) + 43) ≤ _; omega) (by omega) (by omega) hlocks hx9 hS.2.2 hm1 hm6
          · have hj : (decide (decode (am_by y) (pc + 3) = .ok (.dup, 1)) && decide (decode (am_by y) (pc + 4) = .ok (.ldc_w is, 3)) && decide (decode (am_by y) (pc + 7) = .ok (.invokespecial ic, 3)) && decide (decode (am_by y) (pc + 10) = .ok (.athrow, 1))) = true := hlj
            simp only [Bool.and_eq_true, decide_eq_true_eq] at hj
            exact am_throwSW hx hb hst hown (am_fitx z) am_fit.2.2.2 (hts _ (am_lw_ok l1)) (hts _ (am_lw_ok l2)) f2 hatb hgood hZ1 hZ2 hS hsz hdc hj.1.1.1 hj.1.1.2 hj.1.2 hj.2 (fun x hx => (htb x hx).elim) (by show 2 + 3 < _; omega) (by show am_sz st + (13 * (2 + 1) + 43) ≤ _; omega) (by omega) (by omega) hlocks hx9 hS.2.2 hm1 hm6
        · cases hlN
      · cases h
    · cases h
  · -- checkcast
    first | (cases h; done) | (simp [am_nx, Option.bind_eq_some_iff] at h; done) | (split at h <;> first | (cases h; done) | (simp [am_nx, Option.bind_eq_some_iff] at h; done) | (split at h <;> first | (cases h; done) | (simp [am_nx, Option.bind_eq_some_iff] at h; done) | (split at h <;> first | (cases h; done) | (simp [am_nx, Option.bind_eq_some_iff] at h; done) | (split at h <;> first | (cases h; done) | (simp [am_nx, Option.bind_eq_some_iff] at h; done) | (split at h <;> first | (cases h; done) | (simp [am_nx, Option.bind_eq_some_iff] at h; done))))))
  · -- instanceof
    first | (cases h; done) | (simp [am_nx, Option.bind_eq_some_iff] at h; done) | (split at h <;> first | (cases h; done) | (simp [am_nx, Option.bind_eq_some_iff] at h; done) | (split at h <;> first | (cases h; done) | (simp [am_nx, Option.bind_eq_some_iff] at h; done) | (split at h <;> first | (cases h; done) | (simp [am_nx, Option.bind_eq_some_iff] at h; done) | (split at h <;> first | (cases h; done) | (simp [am_nx, Option.bind_eq_some_iff] at h; done) | (split at h <;> first | (cases h; done) | (simp [am_nx, Option.bind_eq_some_iff] at h; done))))))
  · -- invokevirtual
    first | (cases h; done) | (simp [am_nx, Option.bind_eq_some_iff] at h; done) | (split at h <;> first | (cases h; done) | (simp [am_nx, Option.bind_eq_some_iff] at h; done) | (split at h <;> first | (cases h; done) | (simp [am_nx, Option.bind_eq_some_iff] at h; done) | (split at h <;> first | (cases h; done) | (simp [am_nx, Option.bind_eq_some_iff] at h; done) | (split at h <;> first | (cases h; done) | (simp [am_nx, Option.bind_eq_some_iff] at h; done) | (split at h <;> first | (cases h; done) | (simp [am_nx, Option.bind_eq_some_iff] at h; done))))))
  · -- invokeinterface
    first | (cases h; done) | (simp [am_nx, Option.bind_eq_some_iff] at h; done) | (split at h <;> first | (cases h; done) | (simp [am_nx, Option.bind_eq_some_iff] at h; done) | (split at h <;> first | (cases h; done) | (simp [am_nx, Option.bind_eq_some_iff] at h; done) | (split at h <;> first | (cases h; done) | (simp [am_nx, Option.bind_eq_some_iff] at h; done) | (split at h <;> first | (cases h; done) | (simp [am_nx, Option.bind_eq_some_iff] at h; done) | (split at h <;> first | (cases h; done) | (simp [am_nx, Option.bind_eq_some_iff] at h; done))))))
  · -- invokespecial
    first | (cases h; done) | (simp [am_nx, Option.bind_eq_some_iff] at h; done) | (split at h <;> first | (cases h; done) | (simp [am_nx, Option.bind_eq_some_iff] at h; done) | (split at h <;> first | (cases h; done) | (simp [am_nx, Option.bind_eq_some_iff] at h; done) | (split at h <;> first | (cases h; done) | (simp [am_nx, Option.bind_eq_some_iff] at h; done) | (split at h <;> first | (cases h; done) | (simp [am_nx, Option.bind_eq_some_iff] at h; done) | (split at h <;> first | (cases h; done) | (simp [am_nx, Option.bind_eq_some_iff] at h; done))))))
  · -- invokestatic
    first | (cases h; done) | (simp [am_nx, Option.bind_eq_some_iff] at h; done) | (split at h <;> first | (cases h; done) | (simp [am_nx, Option.bind_eq_some_iff] at h; done) | (split at h <;> first | (cases h; done) | (simp [am_nx, Option.bind_eq_some_iff] at h; done) | (split at h <;> first | (cases h; done) | (simp [am_nx, Option.bind_eq_some_iff] at h; done) | (split at h <;> first | (cases h; done) | (simp [am_nx, Option.bind_eq_some_iff] at h; done) | (split at h <;> first | (cases h; done) | (simp [am_nx, Option.bind_eq_some_iff] at h; done))))))
  · -- ireturn
    obtain rfl := hln rfl
    split at h
    · rename_i t r0
      split at h
      · rename_i v
        split at h
        · rename_i hok
          have e9 : r = (.inl (some (.int v)), w) := (Sum.inr.inj (Sum.inr.inj (Option.some.inj h))).symm
          subst e9
          have hlk : (decide (am_ry y = some (am_rt t) ∧ t < 4) || decide (4 ≤ t)) = true := hlk
          simp only [Bool.or_eq_true, decide_eq_true_eq] at hlk
          have hr : meth.sig.returnType = some (am_rt t) := by
            rw [hrt]
            rcases hlk with h1 | h1
            · exact h1.1
            · omega
          refine W.widen hc0 hs0 ?_
          exact vx_ret (W.zret hx hb hr (am_ok_fit hok.2).1 (fun t ht hW => ⟨⟨_, rfl, rfl⟩, by rw [ht]; exact hw, hS.F ht⟩) hS.2.2 hdc hlocks)
        · cases h
      · cases h
    · cases h
  · -- lreturn
    obtain rfl := hln rfl
    split at h
    · rename_i v
      have e9 : r = (.inl (some (.long v)), w) := (Sum.inr.inj (Sum.inr.inj (Option.some.inj h))).symm
      subst e9
      have hr : meth.sig.returnType = some .long := by rw [hrt]; exact of_decide_eq_true hlk
      refine W.widen hc0 hs0 ?_
      exact vx_ret (W.lret hx hb hr (fun t ht hW => ⟨⟨_, rfl, rfl⟩, by rw [ht]; exact hw, hS.F ht⟩) hS.2.2 hdc hlocks)
    · cases h
  · -- dreturn
    obtain rfl := hln rfl
    split at h
    · rename_i v
      have e9 : r = (.inl (some (.double v)), w) := (Sum.inr.inj (Sum.inr.inj (Option.some.inj h))).symm
      subst e9
      have hr : meth.sig.returnType = some .double := by rw [hrt]; exact of_decide_eq_true hlk
      refine W.widen hc0 hs0 ?_
      exact vx_ret (W.dret hx hb hr (fun t ht hW => ⟨⟨_, rfl, rfl⟩, by rw [ht]; exact hw, hS.F ht⟩) hS.2.2 hdc hlocks)
    · cases h
  · -- areturn
    obtain rfl := hln rfl
    split at h
    · rename_i v
      have e9 : r = (.inl (some (.ref v)), w) := (Sum.inr.inj (Sum.inr.inj (Option.some.inj h))).symm
      subst e9
      have hlk : (match am_ry y with | some (.object _) => true | some (.array _) => true | _ => false) = true := hlk
      split at hlk
      · rename_i n hn
        refine W.widen hc0 hs0 ?_
        exact vx_ret (W.aret hx hb (hrt.trans hn) (Or.inl ⟨_, rfl⟩) (Or.inr ⟨_, rfl⟩) (fun t ht hW => ⟨⟨_, rfl, rfl⟩, by rw [ht]; exact hw, hS.F ht⟩) hS.2.2 hdc hlocks)
      · rename_i n hn
        refine W.widen hc0 hs0 ?_
        exact vx_ret (W.aret hx hb (hrt.trans hn) (Or.inr ⟨_, rfl⟩) (Or.inr ⟨_, rfl⟩) (fun t ht hW => ⟨⟨_, rfl, rfl⟩, by rw [ht]; exact hw, hS.F ht⟩) hS.2.2 hdc hlocks)
      · cases hlk
    · cases h
  · -- return_
    obtain rfl := hln rfl
    split at h
    · have e9 : r = (.inl none, w) := (Sum.inr.inj (Sum.inr.inj (Option.some.inj h))).symm
      subst e9
      have hr : meth.sig.returnType = none := by rw [hrt]; exact of_decide_eq_true hlk
      refine W.widen hc0 hs0 ?_
      exact vx_ret (W.vret hx hb hr (fun t ht hW => ⟨⟨_, rfl, rfl⟩, by rw [ht]; exact hw, hS.F ht⟩) hS.2.2 hdc hlocks)
    · cases h
  · -- ELSE
    first | (cases h; done) | (simp [am_nx, Option.bind_eq_some_iff] at h; done) | (split at h <;> first | (cases h; done) | (simp [am_nx, Option.bind_eq_some_iff] at h; done) | (split at h <;> first | (cases h; done) | (simp [am_nx, Option.bind_eq_some_iff] at h; done) | (split at h <;> first | (cases h; done) | (simp [am_nx, Option.bind_eq_some_iff] at h; done) | (split at h <;> first | (cases h; done) | (simp [am_nx, Option.bind_eq_some_iff] at h; done) | (split at h <;> first | (cases h; done) | (simp [am_nx, Option.bind_eq_some_iff] at h; done))))))
end AMS
