/-! THE WORLD ON THE HEAP: what an abstract world says of a heap, and the steps that change it. Mine. -/
def am_ro (e : am_En) : Bool := match e with
  | .inl x => decide (8 ≤ x.1)
  | .inr o => decide (12 ≤ o.1)
def am_cv (dA : Nat → ClassId) (e : am_En) : va_E := match e with
  | .inl x => .inl (dA (x.1 % 8), x.2)
  | .inr o => .inr o
def am_A (base : Nat) : Nat → Prop := fun q => base ≤ q
def am_fv (A : (Nat → Int32) ⊕ (Nat → Int64) ⊕ (Nat → UInt32) ⊕ (Nat → UInt64) ⊕ (Nat → Option Nat)) (j : Nat) : Value := match A with
  | .inl f => .int (f j)
  | .inr (.inl f) => .long (f j)
  | .inr (.inr (.inl f)) => .float (f j)
  | .inr (.inr (.inr (.inl f))) => .double (f j)
  | .inr (.inr (.inr (.inr f))) => va_rf (f j)
/-- something that is read alone, in a heap -/
def am_RD (base : Nat) (U : State) (H : Heap) (a : Nat) (e : am_En) : Prop := match e with
  | .inl (t, n, A) => n < 2 ^ 31 ∧ va_T (am_tyl (t % 8)) a n (am_fv A) (am_A base) U H ∧ (t = 9 → ∃ cell : Cell, H[a]? = some cell ∧ cell.slots.size = n ∧ U.vm.findClass "[J" = some cell.cls)
  | .inr (c, fs) => c = 12 ∧ va_O "java/lang/String" a (am_A base) U H ∧ ∀ (k : Nat) (v : Value), fs[k]? = some v → va_OF (TJ0 k).1 (TJ0 k).2.1 (TJ0 k).2.2.1 v a (am_A base) U H
def am_RO (base : Nat) (sg : am_Sg) (U : State) (H : Heap) : Prop := base ≤ H.size ∧ ∀ (a : Nat) (e : am_En), sg.2 a = some e → a < base ∧ am_RD base U H a e
theorem am_RD.moved {base : Nat} {u U : State} {H : Heap} {a : Nat} {e : am_En} (hvm : u.vm.Alike U.vm) (h : am_RD base u H a e) : am_RD base U H a e := by
  match e, h with
  | .inl (t, n, A), ⟨h0, h1, h2⟩ => exact ⟨h0, h1.moved hvm, fun q => by obtain ⟨cell, k1, k2, k3⟩ := h2 q; exact ⟨cell, k1, k2, by rw [hvm.findClass]; exact k3⟩⟩
  | .inr (c, fs), ⟨h1, h2, h3⟩ => exact ⟨h1, va_O.moved hvm h2, fun k v q => va_OF.moved hvm (h3 k v q)⟩
theorem am_RD.kept {base : Nat} {U : State} {H H1 : Heap} {a : Nat} {e : am_En} (h : am_RD base U H a e) (hab : a < base) (hq : ∀ a : Nat, a < H.size → ¬ am_A base a → H1[a]? = H[a]?) : am_RD base U H1 a e := by
  match e, h with
  | .inl (t, n, A), ⟨h0, h1, h2⟩ => exact ⟨h0, h1.kept hq, fun q => by obtain ⟨cell, k1, k2, k3⟩ := h2 q; exact ⟨cell, by rw [hq a (Array.getElem?_eq_some_iff.mp k1).1 (fun z => by have z : base ≤ a := z; omega)]; exact k1, k2, k3⟩⟩
  | .inr (c, fs), ⟨h1, h2, h3⟩ => exact ⟨h1, h2.kept hq, fun k v q => (h3 k v q).kept hq⟩
def am_WR (D : va_G) (dA : Nat → ClassId) (base : Nat) (sg : am_Sg) (w : am_Wd) (H : Heap) : Prop :=
  H.size = w.2.1 ∧ w.2.2.2 = sg.1 ∧ ∃ ws : va_W, va_P D am_cl ws H ∧ va_D (am_A base) ws ∧
    ∀ (a : Nat) (e : am_En), w.1 a = some e → (am_ro e = true → sg.2 a = some e) ∧ (am_ro e = false → ∃ k : Nat, ws[k]? = some (a, am_cv dA e))
def am_tys (dA : Nat → ClassId) : List (ClassId × FieldType) := (List.range 7).map fun t => (dA t, am_tyl t)
theorem am_tys_at (dA : Nat → ClassId) {t : Nat} (h : t < 7) : (am_tys dA)[t]? = some (dA t, am_tyl t) := by
  simp [am_tys, h]
theorem am_WR.rw {D : va_G} {dA : Nat → ClassId} {base : Nat} {sg : am_Sg} {w : am_Wd} {H : Heap} (h : am_WR D dA base sg w H) {a : Nat} {e : am_En} (he : w.1 a = some e) (hr : am_ro e = false) : ∃ (wx : va_W) (k : Nat), va_P D am_cl wx H ∧ wx[k]? = some (a, am_cv dA e) := by
  obtain ⟨-, -, ws, hP, hD, hm⟩ := h
  obtain ⟨k, hk⟩ := (hm a e he).2 hr
  exact ⟨ws, k, hP, hk⟩
theorem am_WR.ro {D : va_G} {dA : Nat → ClassId} {base : Nat} {sg : am_Sg} {w : am_Wd} {H : Heap} (h : am_WR D dA base sg w H) {a : Nat} {e : am_En} (he : w.1 a = some e) (hr : am_ro e = true) : sg.2 a = some e := by
  obtain ⟨-, -, ws, hP, hD, hm⟩ := h
  exact (hm a e he).1 hr
/-- a cell that may be written: its place, and that it lies behind base -/
theorem am_WR.own {D : va_G} {dA : Nat → ClassId} {base : Nat} {sg : am_Sg} {w : am_Wd} {H : Heap} (h : am_WR D dA base sg w H) {a : Nat} {e : am_En} (he : w.1 a = some e) (hr : am_ro e = false) : am_A base a ∧ va_at D am_cl (a, am_cv dA e) H := by
  obtain ⟨-, -, ws, hP, hD, hm⟩ := h
  obtain ⟨k, hk⟩ := (hm a e he).2 hr
  exact ⟨hD.2 k _ hk, hP k _ hk⟩
theorem am_WR.pt {D : va_G} {dA : Nat → ClassId} {base : Nat} {sg : am_Sg} {w : am_Wd} {H H1 : Heap} (h : am_WR D dA base sg w H) {a : Nat} {e0 e : am_En} (he : w.1 a = some e0) (hr0 : am_ro e0 = false) (hr : am_ro e = false) (z : H1.size = H.size) (oq : ∀ q : Nat, q ≠ a → H1[q]? = H[q]?) (hat : va_at D am_cl (a, am_cv dA e) H1) : am_WR D dA base sg (am_pt w a e) H1 := by
  obtain ⟨hz, hsg, ws, hP, hD, hm⟩ := h
  obtain ⟨k, hk⟩ := (hm a e0 he).2 hr0
  refine ⟨by rw [z]; exact hz, hsg, ws.set k (a, am_cv dA e), hP.set hD hk hat oq, hD.set hk, fun b e' hb' => ?_⟩
  by_cases hab : b = a
  · subst hab
    have e1 : e' = e := by
      have : (am_pt w b e).1 b = some e := if_pos rfl
      rw [this] at hb'
      exact (Option.some.inj hb').symm
    subst e1
    refine ⟨fun q => (by rw [hr] at q; cases q), fun _ => ⟨k, ?_⟩⟩
    have hlt : k < ws.length := (List.getElem?_eq_some_iff.mp hk).1
    simp [hlt]
  · have e1 : (am_pt w a e).1 b = w.1 b := if_neg hab
    rw [e1] at hb'
    obtain ⟨m1, m2⟩ := hm b e' hb'
    refine ⟨m1, fun q => ?_⟩
    obtain ⟨j, hj⟩ := m2 q
    refine ⟨j, ?_⟩
    have hjk : k ≠ j := fun he => by
      subst he
      rw [hk] at hj
      exact hab (congrArg Prod.fst (Option.some.inj hj)).symm
    rw [List.getElem?_set_ne hjk]
    exact hj
theorem am_WR.nw {D : va_G} {dA : Nat → ClassId} {base : Nat} {sg : am_Sg} {w : am_Wd} {H H1 : Heap} (h : am_WR D dA base sg w H) {e : am_En} {n : Nat} (hr : am_ro e = false) (hbs : base ≤ H.size) (z : H1.size = H.size + 1) (oq : ∀ q : Nat, q < H.size → H1[q]? = H[q]?) (hat : va_at D am_cl (H.size, am_cv dA e) H1) : am_WR D dA base sg (am_nw w e n) H1 := by
  obtain ⟨hz, hsg, ws, hP, hD, hm⟩ := h
  have hP1 : va_P D am_cl ws H1 := hP.kept fun j q hj => oq _ ((hP j q hj).lt)
  refine ⟨by rw [z, hz]; rfl, hsg, ws ++ [(H.size, am_cv dA e)], hP1.app fun j q hj => ?_, hD.push hP rfl hbs, fun b e' hb' => ?_⟩
  · cases j with
    | zero => cases hj; exact hat
    | succ j => simp at hj
  · by_cases hab : b = w.2.1
    · have e1 : e' = e := by
        have : (am_nw w e n).1 b = some e := if_pos hab
        rw [this] at hb'
        exact (Option.some.inj hb').symm
      subst e1
      refine ⟨fun q => (by rw [hr] at q; cases q), fun _ => ⟨ws.length, ?_⟩⟩
      rw [hab, hz]
      simp
    · have e1 : (am_nw w e n).1 b = w.1 b := if_neg hab
      rw [e1] at hb'
      obtain ⟨m1, m2⟩ := hm b e' hb'
      refine ⟨m1, fun q => ?_⟩
      obtain ⟨j, hj⟩ := m2 q
      have hjl : j < ws.length := (List.getElem?_eq_some_iff.mp hj).1
      exact ⟨j, by rw [List.getElem?_append_left hjl]; exact hj⟩
/-- cells come that nothing is said of -/
theorem am_WR.jk {D : va_G} {dA : Nat → ClassId} {base : Nat} {sg : am_Sg} {w : am_Wd} {H H1 : Heap} (h : am_WR D dA base sg w H) {k n : Nat} (z : H1.size = H.size + k) (oq : ∀ q : Nat, q < H.size → H1[q]? = H[q]?) : am_WR D dA base sg (am_jk w k n) H1 := by
  obtain ⟨hz, hsg, ws, hP, hD, hm⟩ := h
  exact ⟨by rw [z, hz]; rfl, hsg, ws, hP.kept fun j q hj => oq _ ((hP j q hj).lt), hD, hm⟩
/-- the classes: words, types, names -/
theorem am_cl_in : ∀ (ci : Nat) (q : vw_C), am_cl[ci]? = some q → ∀ w ∈ u_ws q.1 q.2.1 q.2.2, w ∈ am_aw := by
  intro ci q h
  have h2 : ∀ q ∈ am_cl, ∀ w ∈ u_ws q.1 q.2.1 q.2.2, w ∈ am_aw := by decide +kernel
  exact h2 q (List.mem_of_getElem? h)
theorem am_cl_ty : ∀ (ci : Nat) (q : vw_C), am_cl[ci]? = some q → ∀ k, k < q.2.2 → parseFieldDescriptor (q.2.1 k).2.2.1 = some (am_ty ci k) := by
  intro ci q h
  have hl : ci < 13 := (List.getElem?_eq_some_iff.mp h).1
  have h2 : ∀ ci, ci < 13 → ∀ q, am_cl[ci]? = some q → ∀ k, k < q.2.2 → parseFieldDescriptor (q.2.1 k).2.2.1 = some (am_ty ci k) := by
    intro ci hc
    rcases (show ci = 0 ∨ ci = 1 ∨ ci = 2 ∨ ci = 3 ∨ ci = 4 ∨ ci = 5 ∨ ci = 6 ∨ ci = 7 ∨ ci = 8 ∨ ci = 9 ∨ ci = 10 ∨ ci = 11 ∨ ci = 12 by omega) with rfl | rfl | rfl | rfl | rfl | rfl | rfl | rfl | rfl | rfl | rfl | rfl | rfl <;> intro q hq <;> cases hq
    · exact tyJ0_ok
    · exact tyJ4_ok
    · exact tyJx35411_ok
    · exact tyJx4a65c_ok
    · exact tyX0_ok
    · exact tyX1_ok
    · exact tyX3_ok
    · exact tyX4_ok
    · exact tyX5_ok
    · exact tyX6_ok
    · exact tyX7_ok
    · exact tyX8_ok
    · exact tyJ0_ok
  exact h2 ci hl q h
theorem am_cl_nm : ∀ (ci : Nat) (q : vw_C), am_cl[ci]? = some q → ∀ a, a < q.2.2 → ∀ b, b < q.2.2 → a ≠ b → (q.2.1 a).2.1 ≠ (q.2.1 b).2.1 := by
  intro ci q h
  have h2 : ∀ q ∈ am_cl, ∀ a, a < q.2.2 → ∀ b, b < q.2.2 → a ≠ b → (q.2.1 a).2.1 ≠ (q.2.1 b).2.1 := by
    intro q hq
    simp only [am_cl, vwCl, List.cons_append, List.nil_append, List.mem_cons, List.not_mem_nil, or_false] at hq
    rcases hq with rfl | rfl | rfl | rfl | rfl | rfl | rfl | rfl | rfl | rfl | rfl | rfl | rfl
    · exact nmJ0
    · exact nmJ4
    · exact nmJx35411
    · exact nmJx4a65c
    · exact nmX0
    · exact nmX1
    · exact nmX3
    · exact nmX4
    · exact nmX5
    · exact nmX6
    · exact nmX7
    · exact nmX8
    · exact nmJ0
  exact h2 q (List.mem_of_getElem? h)
def am_xtr (U : State) : Prop := (∀ E ∈ am_exn, ∀ E' ∈ am_exn, E ≠ E' → va_Nc E E' U) ∧ (∀ q ∈ am_ifs, va_Fw q.1 q.2.1 q.2.2 U) ∧ (∀ q ∈ am_cst, (Cond.castable q.1 q.2).before #[] U = true) ∧ ∀ w ∈ am_dcl, w.before #[] U = true
/-- what stands of the tables and of what was there before, in a state -/
def am_Env (D : va_G) (dA : Nat → ClassId) (base : Nat) (sg : am_Sg) (U : State) (H : Heap) : Prop :=
  va_K D am_cl (am_tys dA) U ∧ (∀ w ∈ am_nl, va_Nw w U) ∧ vx_Zq Bundle.tN "UNASSIGNED_STACK" Bundle.steD (am_A base) U H ∧ vx_Zq Bundle.tN "SUPPRESSED_SENTINEL" Bundle.listD (am_A base) U H ∧
  (∀ q ∈ am_strs, ∃ a : Nat, sg.1 q.2.2.2 = some a ∧ vk_R q.1 q.2.1 q.2.2.1 a U) ∧ va_AO "Bumpward$Walker" U ∧ va_AO "java/lang/Object" U ∧ va_AOA .int U ∧ am_RO base sg U H ∧
  (∀ z ∈ am_stats, va_Z z.2.1 z.2.2.1 z.2.2.2 (va_rf (sg.1 z.1)) (am_A base) U H) ∧ (∀ z ∈ am_stati, va_Z z.1 z.2.1 z.2.2.1 (.int (Int32.ofNat z.2.2.2)) (am_A base) U H) ∧ am_xtr U
/-- a method's run: the machine, its code, the tables -/
def am_Cx (p : Program) (l : Launch) (R : Room) (s : State) (m : MethodId) (args : Array Value) (meth : Method) (c : Code) (D : va_G) (dA : Nat → ClassId) (base : Nat) (sg : am_Sg) (y : Nat) : Prop :=
  p.tables.exec = Jvm.exec ∧ c.code = am_by y ∧ c.maxLocals = am_ml y ∧ s.vm.findClass (am_ow y) = some m.cls ∧ (∀ w ∈ am_aw, w.before args s = true) ∧ meth.locks = false ∧ ((am_yy y).name = "<init>" → meth.name = "<init>") ∧ meth.sig.returnType = am_ry y ∧
  c.exceptionTable.toList = tableOf (am_hh y) ∧ l.stackTraces = false ∧ am_Env D dA base sg s s.heap ∧ 16 + am_hg y ≤ R.frames ∧ 400 + 200 * am_hg y ≤ R.locals
section AMH
variable {p : Program} {l : Launch} {e : Env} {R : Room} {s : State} {m : MethodId} {args : Array Value} {below : List Frame} {meth : Method} {c : Code} {H : Heap} {locs : List Loc} {cells slots : Nat} {Q : State → Prop}
variable {pc : Nat} {ls : Array Slot} {rest : List Value} {D : va_G} {dA : Nat → ClassId} {base : Nat} {sg : am_Sg} {y : Nat} {w w' : am_Wd} {a : Nat}
theorem am_cl_J0 {ci : Nat} {C : String} {T : u_T} {N : Nat} (h : ci = 0 ∨ ci = 12) (hcl : am_cl[ci]? = some (C, T, N)) : C = "java/lang/String" ∧ T = TJ0 := by
  rcases h with rfl | rfl
  · have e : am_cl[0]? = some (RJ0, TJ0, 4) := rfl
    cases hcl.symm.trans e
    exact ⟨rfl, rfl⟩
  · have e : am_cl[12]? = some (RJ0, TJ0, 4) := rfl
    cases hcl.symm.trans e
    exact ⟨rfl, rfl⟩
theorem am_cc_ro {c ci : Nat} {fs : List Value} (hr : am_ro (.inr (c, fs)) = false) (hc : am_cc c ci = true) : c = ci := by
  unfold am_cc at hc
  simp only [Bool.or_eq_true, Bool.and_eq_true] at hc
  rcases hc with hc | ⟨hc, -⟩
  · exact Nat.eq_of_beq_eq_true hc
  · have := Nat.eq_of_beq_eq_true hc
    subst this
    cases hr
theorem am_cc_12 {ci : Nat} (hc : am_cc 12 ci = true) : ci = 0 ∨ ci = 12 := by
  unfold am_cc at hc
  simp only [Bool.or_eq_true, Bool.and_eq_true] at hc
  rcases hc with hc | ⟨-, hc⟩
  · exact Or.inr (Nat.eq_of_beq_eq_true hc).symm
  · exact Or.inl (Nat.eq_of_beq_eq_true hc)
/-- the object behind a class's number -/
theorem am_kf_rv {base : Nat} {sg : am_Sg} {D : va_G} {dA : Nat → ClassId} {s : State} {H : Heap} {locs : List Loc} {w : am_Wd} {tys : List (ClassId × FieldType)} (hK : va_K D am_cl tys s) (hRO : am_RO base sg s s.heap) (hS : va_S (am_A base) s.heap H locs) (hw : am_WR D dA base sg w H) {ci a : Nat} {C : String} {T : u_T} {N : Nat} (hcl : am_cl[ci]? = some (C, T, N)) {u : Unit} (hk : am_kf w a ci = some u) : ∃ cell : Cell, H[a]? = some cell ∧ cell.vm.isStatics = false ∧ s.vm.findClass C = some cell.cls := by
  unfold am_kf at hk
  split at hk
  · rename_i c fs he
    split at hk
    · rename_i hc
      cases hro : am_ro (.inr (c, fs)) with
      | true =>
        obtain ⟨hab, h1, h2, -⟩ := hRO.2 a _ (hw.ro he hro)
        subst h1
        obtain ⟨rfl, -⟩ := am_cl_J0 (am_cc_12 hc) hcl
        obtain ⟨cell, k1, k2, k3, -⟩ := h2.kept hS.2.1
        exact ⟨cell, k1, k2, k3⟩
      | false =>
        have e := am_cc_ro hro hc
        subst e
        obtain ⟨wx, k0, hP, hk0⟩ := hw.rw he hro
        exact va_recv hK hP hcl hk0
    · cases hk
  · cases hk
theorem am_h_get (C0 : am_Cx p l R s m args meth c D dA base sg y) {x ci k q : Nat} {r : List Nat} (hlk : am_lf (am_ow y) x ci k q r = true) (hdc : decode (am_by y) pc = .ok (.getfield x, 3)) {v : Value} (hv : am_gf w a ci k = some v) (hw : am_WR D dA base sg w H) (hS : va_S (am_A base) s.heap H locs)
    (kk : W p l e R s m args below meth c H locs cells slots Q (F0 m (pc + 3) ls (v :: rest))) : W p l e R s m args below meth c H locs cells slots Q (F0 m pc ls (.ref a :: rest)) := by
  obtain ⟨hx, hb, -, hown, hts, -, -, -, -, -, ⟨hK, hnl, -, -, -, -, -, -, hRO, -⟩, -, -⟩ := C0
  unfold am_gf at hv
  split at hv
  · rename_i c0 fs he
    split at hv
    · rename_i hc
      unfold am_lf at hlk
      split at hlk
      · rename_i C T N hcl
        simp only [Bool.and_eq_true, Bool.or_eq_true, decide_eq_true_eq] at hlk
        obtain ⟨hkN, h3⟩ := hlk
        cases hro : am_ro (.inr (c0, fs)) with
        | true =>
          obtain ⟨hab, hc12, hO, hF⟩ := hRO.2 a _ (hw.ro he hro)
          subst hc12
          obtain ⟨rfl, rfl⟩ := am_cl_J0 (am_cc_12 hc) hcl
          obtain ⟨cf, kf, fi, f, cell, z1, z2, z3, z4, z5, -⟩ := (hF k v hv).kept hS.2.1
          rcases h3 with (h1 | h1) | h1
          · exact W.getf hx hb hown (hts _ (am_lw_ok h1)) z1 z2 z3 z4 z5 rfl rfl hdc kk
          · obtain ⟨h, -, h1⟩ := List.any_eq_true.mp h1
            exact va_Wgetf hx hb hown (va_Nw.use rfl (hnl _ (am_ln_ok h1))) z1 z2 z3 z4 z5 rfl rfl hdc kk
          · split at h1
            · simp only [Bool.and_eq_true] at h1
              exact W.getf hx hb hown (hts _ (am_lw_ok h1.1)) (u_same (hts _ (am_lw_ok h1.2)) _ z1) z2 z3 z4 z5 rfl rfl hdc kk
            · cases h1
        | false =>
          have e := am_cc_ro hro hc
          subst e
          obtain ⟨wx, k0, hP, hk0⟩ := hw.rw he hro
          rcases h3 with (h1 | h1) | h1
          · exact va_get hx hb hts (am_cl_in _ _ hcl) hown hK hP k0 hk0 hcl k hkN (hts _ (am_lw_ok h1)) (fun _ h9 => h9) hv hdc kk
          · obtain ⟨h, -, h1⟩ := List.any_eq_true.mp h1
            exact va_getN hx hb hts (am_cl_in _ _ hcl) hown hK hP k0 hk0 hcl k hkN (va_Nw.use rfl (hnl _ (am_ln_ok h1))) (fun _ h9 => h9) hv hdc kk
          · split at h1
            · simp only [Bool.and_eq_true] at h1
              exact va_get hx hb hts (am_cl_in _ _ hcl) hown hK hP k0 hk0 hcl k hkN (hts _ (am_lw_ok h1.1)) (fun z h9 => u_same (hts _ (am_lw_ok h1.2)) z h9) hv hdc kk
            · cases h1
      · cases hlk
    · cases hv
  · cases hv
theorem am_ok_fit {ty : FieldType} {v : Value} (h : am_ok ty v = true) : narrow ty v = v ∧ fits ty v = true := by
  unfold am_ok at h
  split at h
  all_goals first
    | exact ⟨rfl, rfl⟩
    | (cases h; done)
    | skip
  · simp only [decide_eq_true_eq] at h
    rcases h with rfl | rfl <;> exact ⟨by decide, by decide⟩
  · simp only [decide_eq_true_eq] at h
    refine ⟨?_, by simp [fits, h.1, h.2]⟩
    rename_i x
    have e : x.toInt8.toInt32 = x := by
      have h1 : -128 ≤ x.toInt := Int32.le_iff_toInt_le.mp h.1
      have h2 : x.toInt ≤ 127 := Int32.le_iff_toInt_le.mp h.2
      apply Int32.toInt_inj.mp
      rw [Int8.toInt_toInt32, Int32.toInt_toInt8]
      rw [Int.bmod_eq_of_le] <;> omega
    exact congrArg Value.int e
  · simp only [decide_eq_true_eq] at h
    refine ⟨?_, by simp [fits, h.1, h.2]⟩
    rename_i x
    have e : x.toUInt32.toUInt16.toUInt32.toInt32 = x := by
      have h1 : 0 ≤ x.toInt := Int32.le_iff_toInt_le.mp h.1
      have h2 : x.toInt ≤ 65535 := Int32.le_iff_toInt_le.mp h.2
      have h4 : x.toBitVec.toInt = x.toInt := rfl
      have h5 := BitVec.toInt_eq_toNat_cond x.toBitVec
      have h6 : x.toBitVec.toNat ≤ 65535 := by
        rw [h4] at h5
        have h7 := x.toBitVec.isLt
        split at h5 <;> omega
      apply Int32.toBitVec_inj.mp
      apply BitVec.eq_of_toNat_eq
      show (BitVec.setWidth 32 (BitVec.setWidth 16 x.toBitVec)).toNat = x.toBitVec.toNat
      rw [BitVec.toNat_setWidth, BitVec.toNat_setWidth]
      omega
    exact congrArg Value.int e
theorem am_h_put (C0 : am_Cx p l R s m args meth c D dA base sg y) {x ci k q : Nat} {r : List Nat} (hlk : am_lf (am_ow y) x ci k q r = true) (hlp : am_lp y ci k x q = true) (hdc : decode (am_by y) pc = .ok (.putfield x, 3)) {v : Value} (hok : am_ok (am_ty ci k) v = true) (hpf : am_pf w a ci k v = some w') (hw : am_WR D dA base sg w H) (hS : va_S (am_A base) s.heap H locs)
    (kk : ∀ (H' : Heap) (locs' : List Loc), am_WR D dA base sg w' H' → va_S (am_A base) s.heap H' locs' → W p l e R s m args below meth c H' locs' cells slots Q (F0 m (pc + 3) ls rest)) : W p l e R s m args below meth c H locs cells slots Q (F0 m pc ls (v :: .ref a :: rest)) := by
  obtain ⟨hx, hb, -, hown, hts, -, hini, -, -, -, ⟨hK, hnl, -⟩, -, -⟩ := C0
  unfold am_pf at hpf
  split at hpf
  · rename_i c0 fs he
    split at hpf
    · rename_i hcc
      obtain ⟨hc, hkl, hlt⟩ := hcc
      subst hc
      obtain rfl := Option.some.inj hpf
      have hr0 : am_ro (.inr (c0, fs) : am_En) = false := by simp [am_ro]; omega
      have hr1 : am_ro (.inr (c0, fs.set k v) : am_En) = false := by simp [am_ro]; omega
      obtain ⟨hA, r0, hcl0, cell, q1, q2, q3, q4⟩ := hw.own he hr0
      unfold am_lf at hlk
      unfold am_lp at hlp
      split at hlk
      · rename_i C T N hcl
        have er : r0 = (C, T, N) := Option.some.inj (hcl0.symm.trans hcl)
        subst er
        rw [hcl] at hlp
        simp only [Bool.and_eq_true, Bool.or_eq_true, decide_eq_true_eq, Bool.not_eq_true'] at hlk hlp
        obtain ⟨hkN, hlink⟩ := hlk
        obtain ⟨hS1, hfc, kC, hkC, hkind⟩ := hK.1 c0 _ hcl
        obtain ⟨cf, kf, fi, f, hi, hsl⟩ := hS1 k hkN
        have hin := am_cl_in _ _ hcl
        have hap := va_apart (own := am_ow y) hts hin (am_ty c0) (am_cl_ty _ _ hcl) (am_cl_nm _ _ hcl) hK hcl
        have hlay := hts _ (hin _ (u_in_lay hkN))
        have hst := (u_facts hfc hkC (u_lays hts hin hkN) hi).1
        obtain ⟨hn, hfit⟩ := am_ok_fit hok
        have hd := am_cl_ty _ _ hcl k hkN
        have fin : ∀ H' : Heap, H'[a]? = some (cell.setSlot f.slot v) → H'.size = H.size → (∀ q, q ≠ a → H'[q]? = H[q]?) → W p l e R s m args below meth c H' (locs ++ [⟨a, f.slot⟩]) cells slots Q (F0 m (pc + 3) ls rest) := fun H' e1 e2 e3 => by
          refine kk H' _ (hw.pt he hr0 hr1 e2 e3 ⟨_, hcl, t_OB.to (V := updV (vp_V fs) k v) ⟨_, e1, q2, q3, ?_⟩ (fun j _ => vp_updV_set hkl v j)⟩) (hS.put e2 e3 hA)
          rw [hsl]
          exact t_set q4 hap hkN v
        have hslot : f.slot < cell.slots.size := by rw [hsl]; exact k2_hasslot (q4 k hkN)
        rcases hlp with hfin | ⟨⟨hnm, hdecl⟩, hplain⟩
        · unfold u_lay at hlay
          rw [if_neg (by rw [hfin]; decide)] at hlay
          have h6 := u_store hfc hkC hkind hlay hi hd hn hfit
          rcases hlink with (h1 | h1) | h1
          · exact W.putK hx hb (f := f) ⟨hown, hts _ (am_lw_ok h1), ⟨_, _, _, hi⟩, hst⟩ (by rw [q2]; exact h6) q1 q3 hslot rfl rfl hdc fin
          · obtain ⟨h, -, h1⟩ := List.any_eq_true.mp h1
            exact va_WputK hx hb hown (va_Nw.use rfl (hnl _ (am_ln_ok h1))) hi hst (by rw [q2]; exact h6) q1 q3 hslot rfl rfl hdc fin
          · split at h1
            · simp only [Bool.and_eq_true] at h1
              exact W.putK hx hb (f := f) ⟨hown, hts _ (am_lw_ok h1.1), ⟨_, _, _, u_same (hts _ (am_lw_ok h1.2)) _ hi⟩, hst⟩ (by rw [q2]; exact h6) q1 q3 hslot rfl rfl hdc fin
            · cases h1
        · cases hfin : (T k).2.2.2 with
          | false =>
            unfold u_lay at hlay
            rw [if_neg (by rw [hfin]; decide)] at hlay
            have h6 := u_store hfc hkC hkind hlay hi hd hn hfit
            rcases hlink with (h1 | h1) | h1
            · exact W.putK hx hb (f := f) ⟨hown, hts _ (am_lw_ok h1), ⟨_, _, _, hi⟩, hst⟩ (by rw [q2]; exact h6) q1 q3 hslot rfl rfl hdc fin
            · obtain ⟨h, -, h1⟩ := List.any_eq_true.mp h1
              exact va_WputK hx hb hown (va_Nw.use rfl (hnl _ (am_ln_ok h1))) hi hst (by rw [q2]; exact h6) q1 q3 hslot rfl rfl hdc fin
            · split at h1
              · simp only [Bool.and_eq_true] at h1
                exact W.putK hx hb (f := f) ⟨hown, hts _ (am_lw_ok h1.1), ⟨_, _, _, u_same (hts _ (am_lw_ok h1.2)) _ hi⟩, hst⟩ (by rw [q2]; exact h6) q1 q3 hslot rfl rfl hdc fin
              · cases h1
          | true =>
            unfold u_lay at hlay
            rw [if_pos hfin] at hlay
            have hcf : m.cls = cf := by
              obtain ⟨_, _, c', _, _, _, -, -, hf', -, -, -, hown2, -⟩ := Cond.laysFinal_spec hlay
              have e1 : c' = cf := by have := hi.symm.trans hf'; simp at this; exact this.1.symm
              rw [hdecl] at hown2
              rw [← e1]; exact Option.some.inj (hown.symm.trans hown2)
            have h6 := u_fits hfc hkC hkind (Or.inr hlay) hi hd hn hfit
            exact W.putFinK hx hb hown (hts _ (am_lw_ok hplain)) hi hst hcf (hini hnm) (by rw [q2]; exact h6) q1 q3 hslot rfl rfl hdc fin
      · cases hlk
    · cases hpf
  · cases hpf
theorem am_h_len (C0 : am_Cx p l R s m args meth c D dA base sg y) (hdc : decode (am_by y) pc = .ok (.arraylength, 1)) {n : Nat} (hv : am_len w a = some n) (hw : am_WR D dA base sg w H) (hS : va_S (am_A base) s.heap H locs)
    (kk : W p l e R s m args below meth c H locs cells slots Q (F0 m (pc + 1) ls (.int (Int32.ofNat n) :: rest))) : W p l e R s m args below meth c H locs cells slots Q (F0 m pc ls (.ref a :: rest)) := by
  obtain ⟨hx, hb, -, hown, hts, -, -, -, -, -, ⟨hK, hnl, -, -, -, -, -, -, hRO, -⟩, -, -⟩ := C0
  unfold am_len at hv
  split at hv
  · rename_i t n' f he
    split at hv
    · rename_i ht
      obtain rfl := Option.some.inj hv
      cases hro : am_ro (.inl (t, n', f) : am_En) with
      | true =>
        obtain ⟨-, -, h1, -⟩ := hRO.2 a _ (hw.ro he hro)
        exact va_tlen hx hb h1 hS rfl hdc kk
      | false =>
        obtain ⟨wx, k0, hP, hk0⟩ := hw.rw he hro
        exact va_alen hx hb hK hP k0 (t % 8) hk0 (am_tys_at dA ht) rfl hdc kk
    · cases hv
  · cases hv
theorem am_h_ri (C0 : am_Cx p l R s m args meth c D dA base sg y) (hdc : decode (am_by y) pc = .ok (.iaload, 1)) {i x : Int32} (hv : am_ri 0 w a i = some x) (hw : am_WR D dA base sg w H) (hS : va_S (am_A base) s.heap H locs)
    (kk : W p l e R s m args below meth c H locs cells slots Q (F0 m (pc + 1) ls (.int x :: rest))) : W p l e R s m args below meth c H locs cells slots Q (F0 m pc ls (.int i :: .ref a :: rest)) := by
  obtain ⟨hx, hb, -, hown, hts, -, -, -, -, -, ⟨hK, hnl, -, -, -, -, -, -, hRO, -⟩, -, -⟩ := C0
  unfold am_ri at hv
  split at hv
  · rename_i t' n f he
    split at hv
    · rename_i ht
      split at hv
      · cases hv
      · rename_i hin
        obtain rfl := Option.some.inj hv
        cases hro : am_ro (.inl (t', n, .inl f) : am_En) with
        | true =>
          obtain ⟨-, -, h1, -⟩ := hRO.2 a _ (hw.ro he hro)
          rw [ht] at h1
          exact va_ti hx hb h1 hS hin rfl hdc kk
        | false =>
        obtain ⟨wx, k0, hP, hk0⟩ := hw.rw he hro
        have hk1 : wx[k0]? = some (a, .inl (dA 0, n, .inl f)) := by rw [hk0]; simp [am_cv, ht]
        exact va_iald hx hb hK hP k0 0 hk1 (am_tys_at dA (by omega)) hin hdc kk
    · cases hv
  · cases hv
theorem am_h_rb (C0 : am_Cx p l R s m args meth c D dA base sg y) (hdc : decode (am_by y) pc = .ok (.baload, 1)) {t : Nat} (ht2 : t = 2 ∨ t = 3) {i x : Int32} (hv : am_ri t w a i = some x) (hw : am_WR D dA base sg w H) (hS : va_S (am_A base) s.heap H locs)
    (kk : W p l e R s m args below meth c H locs cells slots Q (F0 m (pc + 1) ls (.int x :: rest))) : W p l e R s m args below meth c H locs cells slots Q (F0 m pc ls (.int i :: .ref a :: rest)) := by
  obtain ⟨hx, hb, -, hown, hts, -, -, -, -, -, ⟨hK, hnl, -, -, -, -, -, -, hRO, -⟩, -, -⟩ := C0
  unfold am_ri at hv
  split at hv
  · rename_i t' n f he
    split at hv
    · rename_i ht
      split at hv
      · cases hv
      · rename_i hin
        obtain rfl := Option.some.inj hv
        cases hro : am_ro (.inl (t', n, .inl f) : am_En) with
        | true =>
          obtain ⟨-, -, h1, -⟩ := hRO.2 a _ (hw.ro he hro)
          rw [ht] at h1
          rcases ht2 with rfl | rfl
          · exact va_tz hx hb h1 hS hin rfl hdc kk
          · exact va_tb hx hb h1 hS hin rfl hdc kk
        | false =>
        obtain ⟨wx, k0, hP, hk0⟩ := hw.rw he hro
        have hk1 : wx[k0]? = some (a, .inl (dA t, n, .inl f)) := by rw [hk0]; simp [am_cv, ht]
        rcases ht2 with rfl | rfl
        · exact va_zald hx hb hK hP k0 2 hk1 (am_tys_at dA (by omega)) hin hdc kk
        · exact va_bald hx hb hK hP k0 3 hk1 (am_tys_at dA (by omega)) hin hdc kk
    · cases hv
  · cases hv
theorem am_h_rl (C0 : am_Cx p l R s m args meth c D dA base sg y) (hdc : decode (am_by y) pc = .ok (.laload, 1)) {i : Int32} {x : Int64} (hv : am_rl w a i = some x) (hw : am_WR D dA base sg w H)
    (kk : W p l e R s m args below meth c H locs cells slots Q (F0 m (pc + 1) ls (.long x :: rest))) : W p l e R s m args below meth c H locs cells slots Q (F0 m pc ls (.int i :: .ref a :: rest)) := by
  obtain ⟨hx, hb, -, hown, hts, -, -, -, -, -, ⟨hK, hnl, -⟩, -, -⟩ := C0
  unfold am_rl at hv
  split at hv
  · rename_i t' n f he
    split at hv
    · rename_i ht
      split at hv
      · cases hv
      · rename_i hin
        obtain rfl := Option.some.inj hv
        obtain ⟨wx, k0, hP, hk0⟩ := hw.rw he (by rw [ht]; rfl)
        have hk1 : wx[k0]? = some (a, .inl (dA 1, n, .inr (.inl f))) := by rw [hk0]; simp [am_cv, ht]
        exact va_lald hx hb hK hP k0 1 hk1 (am_tys_at dA (by omega)) hin hdc kk
    · cases hv
  · cases hv
theorem am_h_rq (C0 : am_Cx p l R s m args meth c D dA base sg y) (hdc : decode (am_by y) pc = .ok (.aaload, 1)) {i : Int32} {x : Value} (hv : am_rq w a i = some x) (hw : am_WR D dA base sg w H)
    (kk : W p l e R s m args below meth c H locs cells slots Q (F0 m (pc + 1) ls (x :: rest))) : W p l e R s m args below meth c H locs cells slots Q (F0 m pc ls (.int i :: .ref a :: rest)) := by
  obtain ⟨hx, hb, -, hown, hts, -, -, -, -, -, ⟨hK, hnl, -⟩, -, -⟩ := C0
  unfold am_rq at hv
  split at hv
  · rename_i t' n f he
    split at hv
    · rename_i ht
      split at hv
      · cases hv
      · rename_i hin
        obtain rfl := Option.some.inj hv
        obtain ⟨wx, k0, hP, hk0⟩ := hw.rw he (by rcases ht with rfl | rfl | rfl <;> rfl)
        have hlt : i.toNatClampNeg < n := Nat.not_le.mp fun q => hin (Or.inr q)
        have hcell : H[a]? = some (arrV (dA (t' % 8)) n (fun j => va_rf (f j))) := (hP k0 _ hk0)
        have ht7 : t' % 8 < 7 := by omega
        have hA := (hK.2 (t' % 8) _ (am_tys_at dA ht7)).1 n (fun j => va_rf (f j))
        have hr : (am_tyl (t' % 8)).isReference = true := by rcases ht with rfl | rfl | rfl <;> rfl
        exact W.aald (v := va_rf (f i.toNatClampNeg)) (ty := am_tyl (t' % 8)) hx hb hcell hA hr (fun q => by cases q) (by show ¬ (i < 0 ∨ (arrV _ _ _).slots.size ≤ _); rw [arrV_size]; exact hin) (by show (arrV _ _ _).slots[_]? = _; rw [arrV_read _ _ hlt]) rfl rfl hdc kk
    · cases hv
  · cases hv
theorem am_h_wi (C0 : am_Cx p l R s m args meth c D dA base sg y) (hdc : decode (am_by y) pc = .ok (.iastore, 1)) {i x : Int32} (hv : am_wi 0 w a i x = some w') (hw : am_WR D dA base sg w H) (hS : va_S (am_A base) s.heap H locs)
    (kk : ∀ (H' : Heap) (locs' : List Loc), am_WR D dA base sg w' H' → va_S (am_A base) s.heap H' locs' → W p l e R s m args below meth c H' locs' cells slots Q (F0 m (pc + 1) ls rest)) : W p l e R s m args below meth c H locs cells slots Q (F0 m pc ls (.int x :: .int i :: .ref a :: rest)) := by
  obtain ⟨hx, hb, -, hown, hts, -, -, -, -, -, ⟨hK, hnl, -⟩, -, -⟩ := C0
  unfold am_wi at hv
  split at hv
  · rename_i t' n f he
    split at hv
    · rename_i ht
      split at hv
      · cases hv
      · rename_i hin
        obtain rfl := Option.some.inj hv
        subst ht
        obtain ⟨hA, hat⟩ := hw.own he rfl
        have hcell : H[a]? = some (vp_cell (dA 0) (n, .inl f)) := hat
        refine W.iast hx hb hcell ((hK.2 0 _ (am_tys_at dA (by omega))).1 n (fun j => .int (f j))) (fun q => by cases q) (by show ¬ (i < 0 ∨ (arrV _ _ _).slots.size ≤ _); rw [arrV_size]; exact hin) rfl rfl hdc fun H1 e1 z oq => ?_
        refine kk H1 _ (hw.pt he rfl rfl z oq ?_) (hS.put z oq hA)
        show H1[a]? = some (vp_cell _ _)
        rw [e1, vp_cell_i, vp_cell_i, arrV_store]
        congr 2
        funext q
        by_cases hq : q = i.toNatClampNeg
        · subst hq; simp [updV, upd]
        · simp [updV, upd, hq]
    · cases hv
  · cases hv
theorem am_h_wb (C0 : am_Cx p l R s m args meth c D dA base sg y) (hdc : decode (am_by y) pc = .ok (.bastore, 1)) {t : Nat} (ht2 : t = 2 ∨ t = 3) {i x : Int32} (hv : am_wi t w a i (vp_nar (if t = 2 then .boolean else .byte) x) = some w') (hw : am_WR D dA base sg w H) (hS : va_S (am_A base) s.heap H locs)
    (kk : ∀ (H' : Heap) (locs' : List Loc), am_WR D dA base sg w' H' → va_S (am_A base) s.heap H' locs' → W p l e R s m args below meth c H' locs' cells slots Q (F0 m (pc + 1) ls rest)) : W p l e R s m args below meth c H locs cells slots Q (F0 m pc ls (.int x :: .int i :: .ref a :: rest)) := by
  obtain ⟨hx, hb, -, hown, hts, -, -, -, -, -, ⟨hK, hnl, -⟩, -, -⟩ := C0
  unfold am_wi at hv
  split at hv
  · rename_i t' n f he
    split at hv
    · rename_i ht
      split at hv
      · cases hv
      · rename_i hin
        obtain rfl := Option.some.inj hv
        subst ht
        rcases ht2 with rfl | rfl
        · obtain ⟨hA, hat⟩ := hw.own he rfl
          have hcell : H[a]? = some (vp_cell (dA 2) (n, .inl f)) := hat
          refine W.zast hx hb hcell ((hK.2 2 _ (am_tys_at dA (by omega))).1 n (fun j => .int (f j))) (fun q => by cases q) (by show ¬ (i < 0 ∨ (arrV _ _ _).slots.size ≤ _); rw [arrV_size]; exact hin) rfl rfl hdc fun H1 e1 z oq => ?_
          refine kk H1 _ (hw.pt he rfl rfl z oq ?_) (hS.put z oq hA)
          show H1[a]? = some (vp_cell _ _)
          rw [e1, vp_cell_i, vp_cell_i, arrV_store]
          congr 2
          funext q
          by_cases hq : q = i.toNatClampNeg
          · subst hq; simp [updV, upd, vp_nar, narrow]
          · simp [updV, upd, hq]
        · obtain ⟨hA, hat⟩ := hw.own he rfl
          have hcell : H[a]? = some (vp_cell (dA 3) (n, .inl f)) := hat
          refine W.bast hx hb hcell ((hK.2 3 _ (am_tys_at dA (by omega))).1 n (fun j => .int (f j))) (fun q => by cases q) (by show ¬ (i < 0 ∨ (arrV _ _ _).slots.size ≤ _); rw [arrV_size]; exact hin) rfl rfl hdc fun H1 e1 z oq => ?_
          refine kk H1 _ (hw.pt he rfl rfl z oq ?_) (hS.put z oq hA)
          show H1[a]? = some (vp_cell _ _)
          rw [e1, vp_cell_i, vp_cell_i, arrV_store]
          congr 2
          funext q
          by_cases hq : q = i.toNatClampNeg
          · subst hq; simp [updV, upd, vp_nar, narrow]
          · simp [updV, upd, hq]
    · cases hv
  · cases hv
theorem am_h_wl (C0 : am_Cx p l R s m args meth c D dA base sg y) (hdc : decode (am_by y) pc = .ok (.lastore, 1)) {i : Int32} {x : Int64} (hv : am_wl w a i x = some w') (hw : am_WR D dA base sg w H) (hS : va_S (am_A base) s.heap H locs)
    (kk : ∀ (H' : Heap) (locs' : List Loc), am_WR D dA base sg w' H' → va_S (am_A base) s.heap H' locs' → W p l e R s m args below meth c H' locs' cells slots Q (F0 m (pc + 1) ls rest)) : W p l e R s m args below meth c H locs cells slots Q (F0 m pc ls (.long x :: .int i :: .ref a :: rest)) := by
  obtain ⟨hx, hb, -, hown, hts, -, -, -, -, -, ⟨hK, hnl, -⟩, -, -⟩ := C0
  unfold am_wl at hv
  split at hv
  · rename_i t' n f he
    split at hv
    · rename_i ht
      split at hv
      · cases hv
      · rename_i hin
        obtain rfl := Option.some.inj hv
        subst ht
        obtain ⟨hA, hat⟩ := hw.own he rfl
        have hcell : H[a]? = some (vp_cell (dA 1) (n, .inr (.inl f))) := hat
        refine W.last hx hb hcell ((hK.2 1 _ (am_tys_at dA (by omega))).1 n (fun j => .long (f j))) (fun q => by cases q) (by show ¬ (i < 0 ∨ (arrV _ _ _).slots.size ≤ _); rw [arrV_size]; exact hin) rfl rfl hdc fun H1 e1 z oq => ?_
        refine kk H1 _ (hw.pt he rfl rfl z oq ?_) (hS.put z oq hA)
        show H1[a]? = some (vp_cell _ _)
        rw [e1, vp_cell_l, vp_cell_l, arrV_store]
        congr 2
        funext q
        by_cases hq : q = i.toNatClampNeg
        · subst hq; simp [updV, vp_updL]
        · simp [updV, vp_updL, hq]
    · cases hv
  · cases hv
theorem am_h_wq (C0 : am_Cx p l R s m args meth c D dA base sg y) (hdc : decode (am_by y) pc = .ok (.aastore, 1)) {t ci b : Nat} {C E : String} {T : u_T} {N : Nat} (ht0 : t = 4 ∨ t = 5) (hcl : am_cl[ci]? = some (C, T, N)) (hE : am_tyl t = .object E) (hcast : C = E ∨ (C, E) ∈ am_cst) {i : Int32} (hv : am_wq t ci w a i b = some w') (hw : am_WR D dA base sg w H) (hS : va_S (am_A base) s.heap H locs)
    (kk : ∀ (H' : Heap) (locs' : List Loc), am_WR D dA base sg w' H' → va_S (am_A base) s.heap H' locs' → W p l e R s m args below meth c H' locs' cells slots Q (F0 m (pc + 1) ls rest)) : W p l e R s m args below meth c H locs cells slots Q (F0 m pc ls (.ref b :: .int i :: .ref a :: rest)) := by
  have hxt := C0.2.2.2.2.2.2.2.2.2.2.1.2.2.2.2.2.2.2.2.2.2.2
  obtain ⟨hx, hb, -, hown, hts, -, -, -, -, -, ⟨hK, hnl, -⟩, -, -⟩ := C0
  unfold am_wq at hv
  split at hv
  · rename_i t' n f he
    split at hv
    · rename_i ht
      split at hv
      · cases hv
      · rename_i hin
        obtain ⟨rfl, hci0, hci12⟩ := ht
        obtain ⟨u, hk, hv⟩ := Option.bind_eq_some_iff.mp hv
        obtain rfl := Option.some.inj hv
        have hr0 : am_ro (.inl (t', n, .inr (.inr (.inr (.inr f)))) : am_En) = false := by rcases ht0 with rfl | rfl <;> rfl
        have hr1 : am_ro (.inl (t', n, .inr (.inr (.inr (.inr (va_up f i.toNatClampNeg (some b)))))) : am_En) = false := by rcases ht0 with rfl | rfl <;> rfl
        have ht8 : t' % 8 = t' := by rcases ht0 with rfl | rfl <;> rfl
        obtain ⟨hA, hat⟩ := hw.own he hr0
        have hcell : H[a]? = some (vp_cell (dA t') (n, .inr (.inr (.inr (.inr f))))) := by
          have h9 : H[a]? = some (vp_cell (dA (t' % 8)) (n, .inr (.inr (.inr (.inr f))))) := hat
          rw [ht8] at h9
          exact h9
        have hfind : ∃ (wx : va_W) (kx : Nat) (fs1 : List Value), va_P D am_cl wx H ∧ wx[kx]? = some (b, .inr (ci, fs1)) := by
          unfold am_kf at hk
          split at hk
          · rename_i c1 fs1 he1
            split at hk
            · rename_i hc1
              have e1 : c1 = ci := by
                unfold am_cc at hc1
                simp only [Bool.or_eq_true, Bool.and_eq_true] at hc1
                rcases hc1 with q | ⟨-, q⟩
                · exact Nat.eq_of_beq_eq_true q
                · have := Nat.eq_of_beq_eq_true q; omega
              subst e1
              obtain ⟨wx, kx, hPx, hkx⟩ := hw.rw he1 (by simp [am_ro]; omega)
              exact ⟨wx, kx, fs1, hPx, hkx⟩
            · cases hk
          · cases hk
        obtain ⟨wx, kx, fs1, hPx, hkx⟩ := hfind
        obtain ⟨r', hr', cellV, g1, g2, g3, -⟩ := hPx kx _ hkx
        have hlt : i.toNatClampNeg < n := Nat.not_le.mp fun q => hin (Or.inr q)
        have h0 : ¬ i < 0 := fun q => hin (Or.inl q)
        have hcls := (hK.1 ci _ hcl).2
        have ht7 : t' < 7 := by omega
        have hKt := (hK.2 t' _ (am_tys_at dA ht7)).2
        rw [hE] at hKt
        obtain ⟨kA, comp, k1, k2, k3, -⟩ := hKt
        obtain ⟨kC, hkC, -⟩ := hcls.2
        have key : s.vm.assignable (D.1 ci) comp = true ∧ ∃ kE, s.vm.classes[comp]? = some kE := by
          rcases hcast with rfl | hca
          · have hcomp : comp = D.1 ci := Option.some.inj (k3.symm.trans hcls.1)
            subst hcomp
            exact ⟨va_assign hcls, kC, hkC⟩
          · obtain ⟨kE, hkE, -⟩ := Vm.findClass_spec k3
            obtain ⟨c0, t1, f1, f2, f3⟩ := Cond.castable_spec (va_any (A' := args) rfl (hxt.2.2.1 _ hca))
            cases hcls.1.symm.trans f1
            cases k3.symm.trans f2
            exact ⟨f3, kE, hkE⟩
        obtain ⟨f3, kE, hkE⟩ := key
        have hcq : (vp_cell (dA t') (n, .inr (.inr (.inr (.inr f))))).slots.size = n := arrV_size _ _ _
        refine W.aast hx hb hcell (fun q h => by cases h) (fun h => by cases h) k1 k2 rfl hkE ⟨h0, by rw [hcq]; exact hlt⟩ g1 (fun q h => by rw [g3] at h; cases h) (by rw [g2]; exact hkC) (by rw [g2]; exact f3) rfl rfl hdc fun H1 e1 z oq => ?_
        refine kk H1 _ (hw.pt he hr0 hr1 z oq ?_) (hS.put z oq hA)
        show H1[a]? = some (vp_cell (dA (t' % 8)) _)
        rw [e1, ht8, vp_cell_q, vp_cell_q, arrV_store]
        congr 2
        funext q
        by_cases hq : q = i.toNatClampNeg
        · subst hq; simp [updV, va_up, va_rf]
        · simp [updV, va_up, hq]
    · cases hv
  · cases hv
theorem am_h_na (C0 : am_Cx p l R s m args meth c D dA base sg y) {at_ : ArrayType} (hdc : decode (am_by y) pc = .ok (.newarray at_, 2)) {t : Nat} (hty : newarray.typeOf at_ = am_tyl t) (ht4 : t < 4) (harr : Cond.arrayClass (am_tyl t) ∈ am_aw) {n : Int32} (hv : am_na w t n = some w') (hw : am_WR D dA base sg w H) (hS : va_S (am_A base) s.heap H locs)
    (hR : cells + (w'.2.1 - w.2.1) ≤ R.cells ∧ slots + (w'.2.2.1 - w.2.2.1) ≤ R.slots)
    (kk : ∀ (H' : Heap), am_WR D dA base sg w' H' → va_S (am_A base) s.heap H' locs → W p l e R s m args below meth c H' locs (cells + (w'.2.1 - w.2.1)) (slots + (w'.2.2.1 - w.2.2.1)) Q (F0 m (pc + 2) ls (.ref w.2.1 :: rest))) : W p l e R s m args below meth c H locs cells slots Q (F0 m pc ls (.int n :: rest)) := by
  obtain ⟨hx, hb, -, hown, hts, -, -, -, -, -, ⟨hK, -, -, -, -, -, -, -, hbs, -, -⟩, -, -⟩ := C0
  unfold am_na at hv
  split at hv
  · cases hv
  · rename_i hn
    obtain rfl := Option.some.inj hv
    have hz := hw.1
    have e1 : (am_nw w (.inl (t, n.toNatClampNeg, am_in t)) n.toNatClampNeg).2.1 - w.2.1 = 1 := by show w.2.1 + 1 - w.2.1 = 1; omega
    have e2 : (am_nw w (.inl (t, n.toNatClampNeg, am_in t)) n.toNatClampNeg).2.2.1 - w.2.2.1 = n.toNatClampNeg := by show w.2.2.1 + n.toNatClampNeg - w.2.2.1 = _; omega
    rw [e1, e2] at hR kk
    have hbytes : n.toNatClampNeg * componentBytes (newarray.typeOf at_) ≤ 536870912 := by
      have h8 : componentBytes (newarray.typeOf at_) ≤ 8 := by cases at_ <;> decide
      have h9 : n.toNatClampNeg ≤ 4096 := Nat.not_lt.mp (fun q => hn (Or.inr q))
      exact Nat.le_trans (Nat.mul_le_mul h9 h8) (by decide)
    have ht7 : t < 7 := by omega
    have ht8 : t % 8 = t := by omega
    refine va_newaK hx hb (hts _ (by rw [hty]; exact harr)) rfl hdc rfl (fun q => hn (Or.inl q)) rfl hbytes hR.1 hR.2 hz fun H1 cA f1 z1 o1 hAr hNm => ?_
    have hcA : cA = dA t := by
      have h9 := (hK.2 t _ (am_tys_at dA ht7)).2
      rw [hty] at hNm
      rcases (show t = 0 ∨ t = 1 ∨ t = 2 ∨ t = 3 by omega) with rfl | rfl | rfl | rfl <;> exact Option.some.inj (hNm.symm.trans h9)
    subst hcA
    refine kk H1 (hw.nw (by simp [am_ro]; omega) (Nat.le_trans hbs.1 hS.1) (by rw [z1, hz]) (fun q hq => o1 q (by rw [← hz]; exact hq)) ?_) ⟨Nat.le_trans hS.1 (by rw [z1, hz]; exact Nat.le_succ _), fun q h1 h2 => (o1 q (by rw [← hz]; exact Nat.lt_of_lt_of_le h1 hS.1)).trans (hS.2.1 q h1 h2), hS.2.2⟩
    show H1[H.size]? = some (vp_cell (dA (t % 8)) (n.toNatClampNeg, am_in t))
    rw [hz, f1, ht8, hty]
    rcases (show t = 0 ∨ t = 1 ∨ t = 2 ∨ t = 3 by omega) with rfl | rfl | rfl | rfl <;> rfl
theorem am_h_new (C0 : am_Cx p l R s m args meth c D dA base sg y) {x ci : Nat} {C : String} {T : u_T} {N : Nat} (hdc : decode (am_by y) pc = .ok (.new x, 3)) (hcl : am_cl[ci]? = some (C, T, N)) (hc12 : ci < 12) (h1 : Cond.classLink (am_ow y) x C ∈ am_aw) (h2 : Cond.instantiable C N ∈ am_aw) (h3 : Cond.initialized C ∈ am_aw) (hw : am_WR D dA base sg w H) (hS : va_S (am_A base) s.heap H locs)
    (hR : cells + 1 ≤ R.cells ∧ slots + N ≤ R.slots)
    (kk : ∀ (H' : Heap), am_WR D dA base sg (am_nw w (.inr (ci, am_df ci N)) N) H' → va_S (am_A base) s.heap H' locs → W p l e R s m args below meth c H' locs (cells + 1) (slots + N) Q (F0 m (pc + 3) ls (.ref w.2.1 :: rest))) : W p l e R s m args below meth c H locs cells slots Q (F0 m pc ls rest) := by
  obtain ⟨hx, hb, -, hown, hts, -, -, -, -, -, ⟨hK, -, -, -, -, -, -, -, hbs, -, -⟩, -, -⟩ := C0
  have hz := hw.1
  have hKn := hK.1 ci _ hcl
  refine W.newcK hx hb hown (hts _ h1) (hts _ h2) (hts _ h3) rfl hdc hR.1 hR.2 hKn.2.1 hz fun H1 kC hkC e1 z1 o1 => ?_
  refine kk H1 (hw.nw (by simp [am_ro]; omega) (Nat.le_trans hbs.1 hS.1) (by rw [z1, hz]) (fun q hq => o1 q (by rw [← hz]; exact hq)) ⟨_, hcl, ?_⟩) ⟨Nat.le_trans hS.1 (by rw [z1, hz]; exact Nat.le_succ _), fun q h1 h2 => (o1 q (by rw [← hz]; exact Nat.lt_of_lt_of_le h1 hS.1)).trans (hS.2.1 q h1 h2), hS.2.2⟩
  have hb0 := (u_born (am_ty ci) hts (am_cl_in _ _ hcl) hKn hkC e1 (am_cl_ty _ _ hcl))
  show t_OB H.size _ _ _ _ _
  rw [hz]
  refine hb0.to fun j hj => ?_
  show defaultValue (am_ty ci j) = (am_df ci N).getD j .null
  simp [am_df, hj]
theorem am_h_nq (C0 : am_Cx p l R s m args meth c D dA base sg y) {x : Nat} {C : String} (hdc : decode (am_by y) pc = .ok (.anewarray x, 3)) {t : Nat} (hty : am_tyl t = .object C) (ht4 : t = 4 ∨ t = 5) (h1 : Cond.classLink (am_ow y) x C ∈ am_aw) (hov : va_AO C s) {n : Int32} (hv : am_na w t n = some w') (hw : am_WR D dA base sg w H) (hS : va_S (am_A base) s.heap H locs)
    (hR : cells + (w'.2.1 - w.2.1) ≤ R.cells ∧ slots + (w'.2.2.1 - w.2.2.1) ≤ R.slots)
    (kk : ∀ (H' : Heap), am_WR D dA base sg w' H' → va_S (am_A base) s.heap H' locs → W p l e R s m args below meth c H' locs (cells + (w'.2.1 - w.2.1)) (slots + (w'.2.2.1 - w.2.2.1)) Q (F0 m (pc + 3) ls (.ref w.2.1 :: rest))) : W p l e R s m args below meth c H locs cells slots Q (F0 m pc ls (.int n :: rest)) := by
  obtain ⟨hx, hb, -, hown, hts, -, -, -, -, -, ⟨hK, -, -, -, -, -, -, -, hbs, -, -⟩, -, -⟩ := C0
  unfold am_na at hv
  split at hv
  · cases hv
  · rename_i hn
    obtain rfl := Option.some.inj hv
    have hz := hw.1
    have e1 : (am_nw w (.inl (t, n.toNatClampNeg, am_in t)) n.toNatClampNeg).2.1 - w.2.1 = 1 := by show w.2.1 + 1 - w.2.1 = 1; omega
    have e2 : (am_nw w (.inl (t, n.toNatClampNeg, am_in t)) n.toNatClampNeg).2.2.1 - w.2.2.1 = n.toNatClampNeg := by show w.2.2.1 + n.toNatClampNeg - w.2.2.1 = _; omega
    rw [e1, e2] at hR kk
    have ht7 : t < 7 := by omega
    have ht8 : t % 8 = t := by omega
    have h9 : n.toNatClampNeg ≤ 4096 := Nat.not_lt.mp (fun q => hn (Or.inr q))
    refine W.anew hx hb hown (hts _ h1) (va_AO.use hov) rfl hdc rfl (fun q => hn (Or.inl q)) (by omega) hR.1 hR.2 fun cA kA comp f1 f2 f3 f4 => ?_
    have hcA : cA = dA t := by
      have h9 := (hK.2 t _ (am_tys_at dA ht7)).2
      rw [hty] at h9
      obtain ⟨_, _, -, -, -, h9⟩ := h9
      exact Option.some.inj (f1.symm.trans h9)
    subst hcA
    generalize hH1 : H.push ({ cls := dA t, slots := Array.replicate n.toNatClampNeg .null, vm := .none } : Cell) = H1
    have z1 : H1.size = H.size + 1 := by rw [← hH1, Array.size_push]
    have e1 : H1[H.size]? = some (arrV (dA t) n.toNatClampNeg (fun _ => .null)) := by rw [← hH1, Array.getElem?_push_size, ← arrV_new]
    have o1 : ∀ q : Nat, q < H.size → H1[q]? = H[q]? := fun q hq => by rw [← hH1, Array.getElem?_push, if_neg (Nat.ne_of_lt hq)]
    have hk := kk H1 (hw.nw (by simp [am_ro]; omega) (Nat.le_trans hbs.1 hS.1) z1 o1 (by
      show H1[H.size]? = some (vp_cell (dA (t % 8)) (n.toNatClampNeg, am_in t))
      rw [e1, ht8]
      rcases ht4 with rfl | rfl <;> rfl)) ⟨Nat.le_trans hS.1 (by rw [z1]; exact Nat.le_succ _), fun q h1 h2 => (o1 q (Nat.lt_of_lt_of_le h1 hS.1)).trans (hS.2.1 q h1 h2), hS.2.2⟩
    rw [← hz] at hk
    exact hk
theorem am_rows_sz (w : am_Wd) (k : Nat) : ∀ n, (am_rows w k n).2.1 = w.2.1 + n ∧ (am_rows w k n).2.2.1 = w.2.2.1 + n * k
  | 0 => ⟨rfl, by simp [am_rows]⟩
  | n + 1 => by
    obtain ⟨h1, h2⟩ := am_rows_sz w k n
    refine ⟨?_, ?_⟩
    · show (am_rows w k n).2.1 + 1 = _
      rw [h1]; omega
    · show (am_rows w k n).2.2.1 + k = _
      rw [h2, Nat.succ_mul]; omega
/-- the rows of new int[n][k], one behind another -/
theorem am_WR.rows {w : am_Wd} {H : Heap} {k : Nat} (hw : am_WR D dA base sg w H) (hb : base ≤ H.size) : ∀ (n : Nat) (H1 : Heap), H1.size = H.size + n → (∀ q : Nat, q < H.size → H1[q]? = H[q]?) → (∀ i : Nat, i < n → H1[H.size + i]? = some (vp_cell (dA 0) (k, .inl (fun _ => 0)))) → am_WR D dA base sg (am_rows w k n) H1 := by
  intro n
  induction n with
  | zero =>
    intro H1 hz ho _
    obtain ⟨hz0, hsg, ws, hP, hD, hm⟩ := hw
    exact ⟨by rw [hz]; exact hz0, hsg, ws, hP.kept fun j q hj => ho _ ((hP j q hj).lt), hD, hm⟩
  | succ n ih =>
    intro H1 hz ho hr
    have hps : H1.pop.size = H.size + n := by rw [Array.size_pop, hz]; omega
    have hpq : ∀ q : Nat, q < H.size + n → H1.pop[q]? = H1[q]? := fun q hq => by
      rw [Array.getElem?_pop, if_pos (by omega)]
    have h1 := ih H1.pop hps (fun q hq => by rw [hpq q (by omega)]; exact ho q hq) (fun i hi => by rw [hpq _ (by omega)]; exact hr i (by omega))
    refine h1.nw rfl (by omega) (by rw [hps, hz]; omega) (fun q hq => (hpq q (by omega)).symm) ?_
    rw [hps]
    exact hr n (Nat.lt_succ_self n)
theorem am_h_mn (C0 : am_Cx p l R s m args meth c D dA base sg y) {x : Nat} (hdc : decode (am_by y) pc = .ok (.multianewarray x 2, 4)) (h1 : Cond.classLink (am_ow y) x "[[I" ∈ am_aw) (hov : va_AOA .int s) (harr : Cond.arrayClass .int ∈ am_aw) {n k : Int32} (hv : am_mn w n k = some w') (hw : am_WR D dA base sg w H) (hS : va_S (am_A base) s.heap H locs)
    (hR : cells + (w'.2.1 - w.2.1) ≤ R.cells ∧ slots + (w'.2.2.1 - w.2.2.1) ≤ R.slots)
    (kk : ∀ (H' : Heap), am_WR D dA base sg w' H' → va_S (am_A base) s.heap H' locs → W p l e R s m args below meth c H' locs (cells + (w'.2.1 - w.2.1)) (slots + (w'.2.2.1 - w.2.2.1)) Q (F0 m (pc + 4) ls (.ref w.2.1 :: rest))) : W p l e R s m args below meth c H locs cells slots Q (F0 m pc ls (.int k :: .int n :: rest)) := by
  obtain ⟨hx, hb, -, hown, hts, -, -, -, -, -, ⟨hK, -, -, -, -, -, -, -, hbs, -, -⟩, -, -⟩ := C0
  unfold am_mn at hv
  split at hv
  · cases hv
  · rename_i hn
    obtain rfl := Option.some.inj hv
    have hz := hw.1
    obtain ⟨s1, s2⟩ := am_rows_sz (am_nw w (.inl (6, n.toNatClampNeg, .inr (.inr (.inr (.inr (fun i => if i < n.toNatClampNeg then some (w.2.1 + 1 + i) else none)))))) n.toNatClampNeg) k.toNatClampNeg n.toNatClampNeg
    rw [s1, s2] at hR kk
    have e1 : (am_nw w (.inl (6, n.toNatClampNeg, .inr (.inr (.inr (.inr (fun i => if i < n.toNatClampNeg then some (w.2.1 + 1 + i) else none)))))) n.toNatClampNeg).2.1 = w.2.1 + 1 := rfl
    have e2 : (am_nw w (.inl (6, n.toNatClampNeg, .inr (.inr (.inr (.inr (fun i => if i < n.toNatClampNeg then some (w.2.1 + 1 + i) else none)))))) n.toNatClampNeg).2.2.1 = w.2.2.1 + n.toNatClampNeg := rfl
    rw [e1, e2] at hR kk
    have c1 : w.2.1 + 1 + n.toNatClampNeg - w.2.1 = 1 + n.toNatClampNeg := by omega
    have c2 : w.2.2.1 + n.toNatClampNeg + n.toNatClampNeg * k.toNatClampNeg - w.2.2.1 = n.toNatClampNeg + n.toNatClampNeg * k.toNatClampNeg := by omega
    rw [c1, c2] at hR kk
    have h9 : n.toNatClampNeg ≤ 4096 := Nat.not_lt.mp (fun q => hn (Or.inr (Or.inr (Or.inl q))))
    have h8 : k.toNatClampNeg ≤ 4096 := Nat.not_lt.mp (fun q => hn (Or.inr (Or.inr (Or.inr q))))
    intro T hT Xs
    obtain ⟨vm₁, cA, comp, -, fA, fC, hO, -, X', step⟩ := Xs.multianewarray2F hx hown (hts _ h1) (va_AOA.use hov) (hts _ harr) (g := F0 m pc ls (.int k :: .int n :: rest)) rfl (by rw [hb]; exact hdc) rfl (fun q => hn (Or.inl q)) (fun q => hn (Or.inr (Or.inl q))) (by omega) (by show _ * 4 ≤ _; omega) (by omega) rfl rfl hR.1 hR.2
    have hA6 : cA = dA 6 := Option.some.inj (fA.symm.trans (hK.2 6 _ (am_tys_at dA (by omega))).2)
    have hA0 : comp = dA 0 := Option.some.inj (fC.symm.trans (hK.2 0 _ (am_tys_at dA (by omega))).2)
    subst hA6 hA0
    generalize hF : Jvm.Free.Multi.fill (T.setVm vm₁) (dA 6) (dA 0) n.toNatClampNeg k.toNatClampNeg (defaultValue .int) n.toNatClampNeg = F at X' step
    have hTh : (T.setVm vm₁).heap = H := hT
    obtain ⟨f1, f2, -, -⟩ := Jvm.Free.Multi.fill_facts (T.setVm vm₁) (dA 6) (dA 0) n.toNatClampNeg k.toNatClampNeg (defaultValue .int) n.toNatClampNeg
    rw [hF, hTh] at f1 f2
    have hold : ∀ x : Nat, x < H.size → F.heap[x]? = H[x]? := fun x hx => by
      have := Jvm.Free.Multi.fill_old (T.setVm vm₁) (dA 6) (dA 0) n.toNatClampNeg k.toNatClampNeg (defaultValue .int) (a := x) (by rw [hTh]; exact hx) n.toNatClampNeg
      rw [hF, hTh] at this
      exact this
    have hrow : ∀ j : Nat, j < n.toNatClampNeg → F.heap[H.size + 1 + j]? = some (vp_cell (dA 0) (k.toNatClampNeg, .inl (fun _ => 0))) := fun j hj => by
      have := Jvm.Free.Multi.fill_inner (T.setVm vm₁) (dA 6) (dA 0) n.toNatClampNeg k.toNatClampNeg (defaultValue .int) n.toNatClampNeg j hj
      rw [hF, hTh] at this
      rw [this]
      exact congrArg some (arrV_new _ _ _)
    have hout : Jvm.Free.Multi.outerC (dA 6) n.toNatClampNeg H.size n.toNatClampNeg = vp_cell (dA 6) (n.toNatClampNeg, .inr (.inr (.inr (.inr (fun i => if i < n.toNatClampNeg then some (H.size + 1 + i) else none))))) := by
      rw [vp_cell_q]
      exact vr_outer (dA 6) n.toNatClampNeg H.size n.toNatClampNeg
    rw [hout] at f2
    have hFz : F.heap.size = H.size + 1 + n.toNatClampNeg := f1
    have hge : base ≤ H.size := Nat.le_trans hbs.1 hS.1
    -- the outer array: the heap up to it
    have hmid : am_WR D dA base sg (am_nw w (.inl (6, n.toNatClampNeg, .inr (.inr (.inr (.inr (fun i => if i < n.toNatClampNeg then some (w.2.1 + 1 + i) else none)))))) n.toNatClampNeg) (F.heap.extract 0 (H.size + 1)) := by
      have hes : (F.heap.extract 0 (H.size + 1)).size = H.size + 1 := by rw [Array.size_extract]; omega
      have heq : ∀ q : Nat, q < H.size + 1 → (F.heap.extract 0 (H.size + 1))[q]? = F.heap[q]? := fun q hq => by
        rw [Array.getElem?_extract, if_pos (by omega), Nat.zero_add]
      refine hw.nw rfl hge hes (fun q hq => by rw [heq q (by omega)]; exact hold q hq) ?_
      show (F.heap.extract 0 (H.size + 1))[H.size]? = some (vp_cell (dA 6) _)
      rw [heq _ (by omega), f2, hz]
    have hfin := hmid.rows (H1 := F.heap) (k := k.toNatClampNeg) (by rw [Array.size_extract]; omega) n.toNatClampNeg (by rw [Array.size_extract]; omega) (fun q hq => by
        rw [Array.size_extract] at hq
        rw [Array.getElem?_extract, if_pos (by omega), Nat.zero_add]) (fun i hi => by
        rw [Array.size_extract, show min (H.size + 1) F.heap.size - 0 = H.size + 1 by omega]
        exact hrow i hi)
    obtain ⟨t, a1, b1⟩ := kk F.heap hfin ⟨Nat.le_trans hS.1 (by omega), fun q q1 q2 => (hold q (Nat.lt_of_lt_of_le q1 hS.1)).trans (hS.2.1 q q1 q2), hS.2.2⟩ F rfl (by rw [← Nat.add_assoc cells, ← Nat.add_assoc slots]; exact X')
    refine ⟨t, step _ ?_, b1⟩
    have e9 : (T.setVm vm₁).heap.size = w.2.1 := by rw [hTh]; exact hz
    rw [← e9] at a1
    exact a1
theorem am_h_clone (C0 : am_Cx p l R s m args meth c D dA base sg y) (hml : c.maxLocals = ls.size) {x : Nat} (hdc : decode (am_by y) pc = .ok (.invokevirtual x, 3)) {q q1 q2 q3 q4 : Nat}
    (hlk : (((am_lw (.methodLink (am_ow y) x ⟨"[J", "clone", "()Ljava/lang/Object;"⟩) q = true ∧ am_lw (.sameMethod "[J" "java/lang/Object" "clone" "()Ljava/lang/Object;") q1 = true) ∧ am_lw (.native ⟨"java/lang/Object", "clone", "()Ljava/lang/Object;"⟩) q2 = true) ∧ am_lw (.instanceMethod ⟨"java/lang/Object", "clone", "()Ljava/lang/Object;"⟩) q3 = true) ∧ am_lw (.selects "[J" ⟨"[J", "clone", "()Ljava/lang/Object;"⟩ ⟨"java/lang/Object", "clone", "()Ljava/lang/Object;"⟩) q4 = true)
    (hz8 : am_sz rest ≤ 8) {t n : Nat} {f : Nat → Int64} (he : w.1 a = some (.inl (t, n, .inr (.inl f)))) (ht : t = 9) (hw : am_WR D dA base sg w H) (hS : va_S (am_A base) s.heap H locs)
    (hR : cells + 1 ≤ R.cells ∧ slots + n ≤ R.slots)
    (kk : ∀ (H' : Heap), am_WR D dA base sg (am_nw w (.inl (1, n, .inr (.inl f))) n) H' → va_S (am_A base) s.heap H' locs → W p l e R s m args below meth c H' locs (cells + 1) (slots + n) Q (F0 m (pc + 3) ls (.ref w.2.1 :: rest))) : W p l e R s m args below meth c H locs cells slots Q (F0 m pc ls (.ref a :: rest)) := by
  have hxt := C0.2.2.2.2.2.2.2.2.2.2.1.2.2.2.2.2.2.2.2.2.2.2
  obtain ⟨hx, hb, -, hown, hts, -, -, -, -, -, ⟨hK, -, -, -, -, -, -, -, hbs, -, -⟩, hRf, hRl⟩ := C0
  have hz := hw.1
  obtain ⟨⟨⟨⟨l1, l2⟩, l3⟩, l4⟩, l5⟩ := hlk
  subst ht
  obtain ⟨hab, -, hT0, hcl9⟩ := hbs.2 a _ (hw.ro he rfl)
  obtain ⟨celX, hatX, hszX, hclX⟩ := hcl9 rfl
  have hkq : H[a]? = s.heap[a]? := hS.2.1 a (Array.getElem?_eq_some_iff.mp hatX).1 (fun z => by have z : base ≤ a := z; omega)
  obtain ⟨celY, y1, y2, y3, -, -, y6, -⟩ := hT0
  have eXY : celY = celX := Option.some.inj (y1.symm.trans hatX)
  subst eXY
  have hat : H[a]? = some celY := hkq.trans hatX
  have y6 : ∀ j : Nat, j < n → celY.slots[j]? = some (.long (f j)) := y6
  have hnm : s.vm.findClass "[J" = some (dA 1) := (hK.2 1 _ (am_tys_at dA (by omega))).2
  have hcl0 : celY.cls = dA 1 := Option.some.inj (hclX.symm.trans hnm)
  have hslE : celY.slots = (arrV (dA 1) n (fun j => Value.long (f j))).slots := by
    apply Array.ext_getElem?
    intro j
    by_cases hj : j < n
    · rw [y6 j hj, arrV_read _ _ hj]
    · have h8 : (arrV (dA 1) n (fun j => Value.long (f j))).slots.size = n := arrV_size _ _ _
      rw [Array.getElem?_eq_none (by omega), Array.getElem?_eq_none (by omega)]
  have hfit : ∀ (i : Nat) (v : Value), celY.slots[i]? = some v → fits .long v = true := by
    intro i v hv
    by_cases hi : i < n
    · rw [y6 i hi] at hv
      cases hv; rfl
    · rw [Array.getElem?_eq_none (by omega)] at hv
      cases hv
  have hcellE : ({ cls := celY.cls, slots := celY.slots } : Cell) = vp_cell (dA 1) (n, .inr (.inl f)) := by
    rw [hcl0, hslE]
    rfl
  obtain ⟨c0, t0', f1, f2, f3⟩ := Cond.castable_spec (va_any (A' := args) rfl (hxt.2.2.1 ("[J", "java/lang/Cloneable") (by decide)))
  cases hnm.symm.trans f1
  intro T hT X
  have hcellT : T.heap[a]? = some celY := by rw [hT]; exact hat
  obtain ⟨-, kA, hkA, comp, hkind⟩ := State.isArrayOf_alike X.warmed.alike ((hK.2 1 _ (am_tys_at dA (by omega))).1 0 (fun _ => .null))
  obtain ⟨-, kS, hkS, compS, hkindS⟩ := (hK.2 1 _ (am_tys_at dA (by omega))).1 0 (fun _ => .null)
  obtain ⟨vm', X', st⟩ := X.cloneArray hx hown (hts _ (am_lw_ok l1)) (hts _ (am_lw_ok l2)) (hts _ (am_lw_ok l3)) (hts _ (am_lw_ok l4)) (hts _ (am_lw_ok l5)) (a := a) (cell := celY) hcellT (fun k h => y2.1 k h) y3 (by rw [hcl0]; exact hnm) f2 (by rw [hcl0]; exact f3)
    (fun i v hv => by
      rw [hcl0]
      have hk' : T.vm.classes[dA 1]? = some kA := hkA
      simpa [State.fitsSlot, State.slotType?, hk', hkind] using (show fits (am_tyl 1) v = true from hfit i v hv))
    (g := F0 m pc ls (.ref a :: rest)) rfl (by rw [hml]) rfl (by rw [hb]; exact hdc) (by omega) (by show 2 * 0 + am_sz rest + 14 ≤ _; omega) hR.1 (by rw [hszX]; exact hR.2) (hloader := by rw [hcl0]; exact Vm.clonesLoader_of_array hkS hkindS)
  rw [hcellE, hszX] at X'
  generalize hH1 : H.push (vp_cell (dA 1) (n, .inr (.inl f))) = H1
  have z1 : H1.size = H.size + 1 := by rw [← hH1, Array.size_push]
  have e1 : H1[H.size]? = some (vp_cell (dA 1) (n, .inr (.inl f))) := by rw [← hH1, Array.getElem?_push_size]
  have o1 : ∀ q : Nat, q < H.size → H1[q]? = H[q]? := fun q hq => by rw [← hH1, Array.getElem?_push, if_neg (Nat.ne_of_lt hq)]
  obtain ⟨t1, b1, b2⟩ := kk H1 (hw.nw rfl (Nat.le_trans hbs.1 hS.1) z1 o1 e1) ⟨Nat.le_trans hS.1 (by rw [z1]; exact Nat.le_succ _), fun q h1 h2 => (o1 q (Nat.lt_of_lt_of_le h1 hS.1)).trans (hS.2.1 q h1 h2), hS.2.2⟩ _ (by rw [← hH1, ← hT]; rfl) X'
  refine ⟨t1, st t1 ?_, b2⟩
  rw [← hz, ← hT] at b1
  rw [hcellE]
  exact b1
theorem am_h_cy (C0 : am_Cx p l R s m args meth c D dA base sg y) (hml : c.maxLocals = ls.size) {x : Nat} (hdc : decode (am_by y) pc = .ok (.invokestatic x, 3)) {q q1 q2 q3 : Nat}
    (hlk : ((am_lw (.methodLink (am_ow y) x arraycopyName) q = true ∧ am_lw (.native arraycopyName) q1 = true) ∧ am_lw (.static arraycopyName) q2 = true) ∧ am_lw (.initialized "java/lang/System") q3 = true)
    (hz8 : am_sz rest ≤ 8) {a0 : Nat} {sp dp n : Int32} (hv : am_cy w a0 sp a dp n = some w') (hw : am_WR D dA base sg w H) (hS : va_S (am_A base) s.heap H locs)
    (kk : ∀ (H' : Heap) (locs' : List Loc), am_WR D dA base sg w' H' → va_S (am_A base) s.heap H' locs' → W p l e R s m args below meth c H' locs' cells slots Q (F0 m (pc + 3) ls rest)) : W p l e R s m args below meth c H locs cells slots Q (F0 m pc ls (.int n :: .int dp :: .ref a :: .int sp :: .ref a0 :: rest)) := by
  obtain ⟨hx, hb, -, hown, hts, -, -, -, -, -, ⟨hK, -, -, -, -, -, -, -, hRO, -⟩, hRf, hRl⟩ := C0
  obtain ⟨⟨⟨l1, l2⟩, l3⟩, l4⟩ := hlk
  unfold am_cy at hv
  split at hv
  · rename_i t0 n0 f t1 n1 g he0 he1
    split at hv
    · rename_i hcc
      obtain ⟨⟨ht0, rfl, h1, h2, h3⟩, ⟨h4, h5⟩, hfit⟩ := hcc
      obtain rfl := Option.some.inj hv
      have nn : ∀ z : Int32, ¬ z < 0 → z.toInt = (z.toNatClampNeg : Int) := by
        intro z hz
        have hz0 : (0 : Int) ≤ z.toInt := by
          have := Int32.not_lt.mp hz
          simpa using Int32.le_iff_toInt_le.mp this
        show z.toInt = ((z.toInt.toNat : Nat) : Int)
        omega
      cases hro : am_ro (.inl (t0, n0, .inl f) : am_En) with
      | true =>
        obtain ⟨-, -, hT3, -⟩ := hRO.2 a0 _ (hw.ro he0 hro)
        rw [ht0] at hT3
        obtain ⟨hA, hc1⟩ := hw.own he1 (by rfl)
        have hc1 : H[a]? = some (vp_cell (dA 3) (n1, .inl g)) := hc1
        obtain ⟨scr, hs1, hs2, hs3, hs4, -, hs5, hs7⟩ := hT3
        have hs5 : ∀ j : Nat, j < n0 → scr.slots[j]? = some (.int (f j)) := hs5
        have hc0 : H[a0]? = some scr := by rw [hS.2.1 a0 (Array.getElem?_eq_some_iff.mp hs1).1 hs7]; exact hs1
        obtain ⟨hs6, kQ, hkQ, cmQ, hkkQ⟩ := hs2
        have hkkQ : kQ.kind = .array cmQ .byte := hkkQ
        intro T hT X
        obtain ⟨-, kB, hkB, cmB, hkkB⟩ := (hK.2 3 _ (am_tys_at dA (by omega))).1 n1 (fun j => .int (g j))
        have hkkB : kB.kind = .array cmB .byte := hkkB
        obtain ⟨vm', X', step⟩ := X.arraycopy hx hown (hts _ (am_lw_ok l1)) (hts _ (am_lw_ok l2)) (hts _ (am_lw_ok l3)) (hts _ (am_lw_ok l4)) (src := a0) (dst := a) (cs := scr) (cd := vp_cell (dA 3) (n1, .inl g)) (srcPos := sp) (destPos := dp) (n := n) (by rw [hT]; exact hc0) (by rw [hT]; exact hc1)
          hs6 (fun _ h => by cases h) hs3 (fun h => by cases h) hkQ hkB hkkQ hkkB (by simp [refKind]) h1 h2 h3
          (by rw [nn sp h1, nn n h3]; omega)
          (by rw [nn dp h2, nn n h3]; show ¬ _ > ((arrV (dA 3) n1 (fun j => .int (g j))).slots.size : Int); rw [arrV_size]; omega)
          (fun vm₁ _ i hi => by
            have e : scr.slots.getD (sp.toNatClampNeg + i) .null = .int (f (sp.toNatClampNeg + i)) := by
              rw [Array.getD_eq_getD_getElem?, hs5 _ (by omega)]
              rfl
            refine ⟨?_, ?_⟩
            · rw [e]
              exact (am_ok_fit (hfit i hi)).2
            · rw [e]
              exact trivial)
          (g := F0 m pc ls (.int n :: .int dp :: .ref a :: .int sp :: .ref a0 :: rest)) rfl (by rw [hml]) (rest := rest) rfl (by rw [hb]; exact hdc) (by omega) (by show 2 * 0 + am_sz rest + (5 + 2 + 11) ≤ _; omega)
        have e1 : copied scr (vp_cell (dA 3) (n1, .inl g)) sp dp n = vp_cell (dA 3) (n1, .inl (va_cpy f g sp.toNatClampNeg dp.toNatClampNeg n.toNatClampNeg)) := va_copiedX (fun z => .int z) scr (dA 3) f g hs5 h4
        rw [e1] at X' step
        have hl : a < H.size := (Array.getElem?_eq_some_iff.mp hc1).1
        generalize hcell : vp_cell (dA 3) (n1, .inl (va_cpy f g sp.toNatClampNeg dp.toNatClampNeg n.toNatClampNeg)) = cellN at X' step
        have hheap : ((T.setVm vm').setCell a cellN).heap = H.setIfInBounds a cellN := by rw [← hT]; rfl
        have oq : ∀ q : Nat, q ≠ a → (H.setIfInBounds a cellN)[q]? = H[q]? := fun q hq => by simp [Array.getElem?_setIfInBounds, Ne.symm hq]
        obtain ⟨t, a1, b1⟩ := kk _ _ (hw.pt he1 (by rfl) (by rfl) (by simp) oq (show (H.setIfInBounds a cellN)[a]? = some _ by rw [← hcell]; simp [Array.getElem?_setIfInBounds, hl])) ⟨by simp; exact hS.1, fun q g1 g2 => by
            rw [oq q (fun e => g2 (by rw [e]; exact hA))]
            exact hS.2.1 q g1 g2, fun q hq => by
            rcases List.mem_append.mp hq with h | h
            · exact hS.2.2 q h
            · obtain ⟨z, -, hz⟩ := List.mem_map.mp h
              rw [← hz]
              exact hA⟩ _ hheap X'
        exact ⟨t, step t a1, b1⟩
      | false =>
      intro T hT X
      obtain ⟨wx, k0, hP0, hk0⟩ := hw.rw he0 hro
      have hc0 : H[a0]? = some (vp_cell (dA 3) (n0, .inl f)) := by
        have h9 : H[a0]? = some (vp_cell (dA (t0 % 8)) (n0, .inl f)) := hP0 k0 _ hk0
        rw [ht0] at h9; exact h9
      obtain ⟨hA, hc1⟩ := hw.own he1 (by rfl)
      have hc1 : H[a]? = some (vp_cell (dA 3) (n1, .inl g)) := hc1
      obtain ⟨-, kB, hkB, cmB, hkkB⟩ := (hK.2 3 _ (am_tys_at dA (by omega))).1 n0 (fun j => .int (f j))
      obtain ⟨vm', X', step⟩ := X.arraycopy hx hown (hts _ (am_lw_ok l1)) (hts _ (am_lw_ok l2)) (hts _ (am_lw_ok l3)) (hts _ (am_lw_ok l4)) (src := a0) (dst := a) (cs := vp_cell (dA 3) (n0, .inl f)) (cd := vp_cell (dA 3) (n1, .inl g)) (srcPos := sp) (destPos := dp) (n := n) (by rw [hT]; exact hc0) (by rw [hT]; exact hc1)
        (fun _ h => by cases h) (fun _ h => by cases h) (fun h => by cases h) (fun h => by cases h) hkB hkB hkkB hkkB (by simp [show refKind (am_tyl 3) = false from rfl]) h1 h2 h3
        (by rw [nn sp h1, nn n h3]; show ¬ _ > ((arrV (dA 3) n0 (fun j => .int (f j))).slots.size : Int); rw [arrV_size]; omega)
        (by rw [nn dp h2, nn n h3]; show ¬ _ > ((arrV (dA 3) n1 (fun j => .int (g j))).slots.size : Int); rw [arrV_size]; omega)
        (fun vm₁ _ i hi => by
          have e : (vp_cell (dA 3) (n0, .inl f)).slots.getD (sp.toNatClampNeg + i) .null = .int (f (sp.toNatClampNeg + i)) := by
            show (arrV (dA 3) n0 (fun j => .int (f j))).slots.getD _ _ = _
            rw [Array.getD_eq_getD_getElem?, arrV_read _ _ (by omega)]
            rfl
          refine ⟨?_, ?_⟩
          · rw [e]
            exact (am_ok_fit (hfit i hi)).2
          · rw [e]
            exact trivial)
        (g := F0 m pc ls (.int n :: .int dp :: .ref a :: .int sp :: .ref a0 :: rest)) rfl (by rw [hml]) (rest := rest) rfl (by rw [hb]; exact hdc) (by omega) (by show 2 * 0 + am_sz rest + (5 + 2 + 11) ≤ _; omega)
      have e1 : copied (vp_cell (dA 3) (n0, .inl f)) (vp_cell (dA 3) (n1, .inl g)) sp dp n = vp_cell (dA 3) (n1, .inl (va_cpy f g sp.toNatClampNeg dp.toNatClampNeg n.toNatClampNeg)) := va_copied (fun z => .int z) (dA 3) (dA 3) f g h4
      rw [e1] at X' step
      have hl : a < H.size := (Array.getElem?_eq_some_iff.mp hc1).1
      generalize hcell : vp_cell (dA 3) (n1, .inl (va_cpy f g sp.toNatClampNeg dp.toNatClampNeg n.toNatClampNeg)) = cellN at X' step
      have hheap : ((T.setVm vm').setCell a cellN).heap = H.setIfInBounds a cellN := by rw [← hT]; rfl
      have oq : ∀ q : Nat, q ≠ a → (H.setIfInBounds a cellN)[q]? = H[q]? := fun q hq => by simp [Array.getElem?_setIfInBounds, Ne.symm hq]
      obtain ⟨t, a1, b1⟩ := kk _ _ (hw.pt he1 (by rfl) (by rfl) (by simp) oq (show (H.setIfInBounds a cellN)[a]? = some _ by rw [← hcell]; simp [Array.getElem?_setIfInBounds, hl])) ⟨by simp; exact hS.1, fun q g1 g2 => by
          rw [oq q (fun e => g2 (by rw [e]; exact hA))]
          exact hS.2.1 q g1 g2, fun q hq => by
          rcases List.mem_append.mp hq with h | h
          · exact hS.2.2 q h
          · obtain ⟨z, -, hz⟩ := List.mem_map.mp h
            rw [← hz]
            exact hA⟩ _ hheap X'
      exact ⟨t, step t a1, b1⟩
    · cases hv
  · cases hv
theorem am_ldcSW {cc : ByteArray} (hexec : p.tables.exec = Jvm.exec) (hb : c.code = cc) {own tx : String} {index q : Nat} (hown : s.vm.findClass own = some m.cls) (hZ : vk_R own index tx q s) (hdg : decode cc pc = .ok (.ldc_w index, 3))
    (k : W p l e R s m args below meth c H locs cells slots Q (F0 m (pc + 3) ls (.ref q :: rest))) : W p l e R s m args below meth c H locs cells slots Q (F0 m pc ls rest) := by
  intro T hT X
  obtain ⟨t, a1, b1⟩ := k T hT X
  exact ⟨t, X.ldcStringW hexec hown (text := tx) (a := q) hZ.1 hZ.2 (g := F0 m pc ls rest) rfl (by rw [hb]; exact hdg) t a1, b1⟩
end AMH
