/-! CALLS, AND THE WHOLE: am_sim. Mine. -/
theorem am_fetch_mem : ∀ (L : List am_Row) (pc : Nat) (q : Instr × Nat × List Nat × List Nat), am_fetch L pc = some q → (pc, q) ∈ L
  | [], _, _, h => by cases h
  | r :: t, pc, q, h => by
    rw [am_fetch] at h
    cases hb : Nat.beq r.1 pc with
    | true =>
      rw [hb] at h
      have e1 : r.1 = pc := Nat.eq_of_beq_eq_true hb
      have e2 : r.2 = q := Option.some.inj h
      have e3 : r = (pc, q) := by rw [← e1, ← e2]
      rw [e3]; exact List.mem_cons_self
    | false =>
      rw [hb] at h
      exact List.mem_cons_of_mem _ (am_fetch_mem t pc q h)
theorem am_row {y pc : Nat} {q : Instr × Nat × List Nat × List Nat} (hok : am_okm y = true) (hf : am_fetch (am_mth y) pc = some q) : decode (am_by y) pc = .ok (q.1, q.2.1) ∧ am_lk y q.1 q.2.2.1 = true ∧ (am_isw q.1 = false → q.2.1 = am_il q.1) ∧ am_lj y pc q.1 q.2.2.1 = true := by
  have h := List.all_eq_true.mp hok _ (am_fetch_mem _ _ _ hf)
  unfold am_okr at h
  simp only [Bool.and_eq_true, Bool.or_eq_true, decide_eq_true_eq] at h
  obtain ⟨⟨⟨h1, h2⟩, h3⟩, h4⟩ := h
  exact ⟨h1, h2, fun hs => by rcases h3 with h3 | h3; (rw [hs] at h3; cases h3); exact h3, h4⟩
section AMC
variable {p : Program} {l : Launch} {e : Env} {R : Room} {s : State} {m : MethodId} {args : Array Value} {below : List Frame} {meth : Method} {c : Code} {H : Heap} {locs : List Loc} {cells slots : Nat} {Q : State → Prop}
variable {pc : Nat} {lsA : Array Slot} {D : va_G} {dA : Nat → ClassId} {base : Nat} {sg : am_Sg} {y : Nat} {st0 rest : List Value} {a : Array Value} {mc ms : Nat}
theorem am_cont {r1 : am_Out × am_Wd} (hr : vx_Run p l e R s m args below meth c H locs cells slots mc ms (F0 m pc lsA st0) rest (am_Qc D dA base sg r1 a) (am_XC D dA base sg r1) (am_A base)) (hS : va_S (am_A base) s.heap H locs)
    (hkv : ∀ v : Option Value, r1.1 = .inl v → ∀ (H' : Heap) (locs' : List Loc), am_WR D dA base sg r1.2 H' → va_S (am_A base) s.heap H' locs' → W p l e R s m args below meth c H' locs' (cells + mc) (slots + ms) Q (F0 m (pc + 3) lsA (v.toList ++ rest)))
    (hkx : ∀ E : String, r1.1 = .inr E → ∀ (H' : Heap) (locs' : List Loc) (q : Addr) (ce : Cell), am_WR D dA base sg r1.2 H' → va_S (am_A base) s.heap H' locs' → H'[q]? = some ce → ce.vm = .none → s.vm.findClass E = some ce.cls → vx_W p l e R s m args below meth c H' locs' (cells + mc) (slots + ms) Q (F0 m pc lsA rest) q) :
    W p l e R s m args below meth c H locs cells slots Q (F0 m pc lsA st0) := by
  intro T hT X
  rcases hr T hT X with ⟨v, st₀, t, T', L, h0, X', hL, e1, e2, ⟨⟨v', hv1, hv2⟩, hWR, hF⟩, st⟩ | ⟨q, st₀, t, T', L, E, ce, h0, X', hL, e1, e2, ⟨hv1, hWR, hF⟩, hce, hcv, hcl, st⟩
  · cases hv2
    obtain ⟨k1, k2, k3⟩ := vx_keep h0 e1 hS (fun q _ h => h) (fun q h => h) hL hF
    obtain ⟨t2, a1, b1⟩ := hkv v hv1 T'.heap (locs ++ L) (by rw [e1]; exact hWR) k3 T' rfl X'
    exact ⟨t2, st t2 a1, b1⟩
  · obtain ⟨k1, k2, k3⟩ := vx_keep h0 e1 hS (fun q _ h => h) (fun q h => h) hL hF
    obtain ⟨t2, a1, b1⟩ := hkx E hv1 T'.heap (locs ++ L) q ce (by rw [e1]; exact hWR) k3 (by rw [e1]; exact hce) hcv hcl T' rfl X'
    exact ⟨t2, st.trans a1, b1⟩
end AMC
/-- what is to be shown, for runs of at most n instructions -/
def am_S (l : Launch) (D : va_G) (dA : Nat → ClassId) (base : Nat) (sg : am_Sg) (n : Nat) : Prop := ∀ (p : Program) (e : Env) (R : Room) (s : State) (m : MethodId) (args : Array Value) (below : List Frame) (meth : Method) (c : Code) (y pc : Nat) (ls : am_Lc) (st : List Value) (w : am_Wd) (r : am_Out × am_Wd) (H : Heap) (locs : List Loc) (cells slots mc ms : Nat) (lsA : Array Slot),
  am_runN n y pc ls st w = some r → am_Cx p l R s m args meth c D dA base sg y → am_LH lsA (am_ml y) ls → am_WR D dA base sg w H → va_S (am_A base) s.heap H locs → cells + (r.2.2.1 - w.2.1) ≤ mc → slots + (r.2.2.2.1 - w.2.2.1) ≤ ms → mc ≤ R.cells → ms ≤ R.slots →
  W p l e R s m args below meth c H locs cells slots (vx_MQ below (am_Qc D dA base sg r) (am_XC D dA base sg r) args s mc ms (am_A base)) (F0 m pc lsA st)
theorem am_met {l : Launch} {D : va_G} {dA : Nat → ClassId} {base : Nat} {sg : am_Sg} {n : Nat} (hst : l.stackTraces = false) (ih : am_S l D dA base sg n) {y : Nat} {as : List Value} {w : am_Wd} {r : am_Out × am_Wd} (h : am_runN n y 0 (am_ent y as) [] w = some r) (hl : (am_xp as).length ≤ am_ml y) (hpl : plainName (am_ow y) = true) :
    vx_Met l (am_yy y) (am_wsy y) (am_rm y (r.2.2.1 - w.2.1) (r.2.2.2.1 - w.2.2.1)) (am_Pc D dA base sg as w) (am_Qc D dA base sg r) (am_XC D dA base sg r) (r.2.2.1 - w.2.1) (r.2.2.2.1 - w.2.2.1) (am_A base) := by
  have fin : ∀ (p : Program) (e : Env) (s : State) (m : MethodId) (args : Array Value) (below : List Frame) (meth : Method) (c : Code) (s₁ : State), BodyLoose p l (am_yy y) (headSpec (am_wsy y) (am_rm y (r.2.2.1 - w.2.1) (r.2.2.2.1 - w.2.2.1))) (am_by y) (am_ml y) (am_ry y) e s m args below meth c s₁ → c.maxLocals = am_ml y → c.exceptionTable.toList = tableOf (am_hh y) → am_Pc D dA base sg as w args s →
      W p l e (headSpec (am_wsy y) (am_rm y (r.2.2.1 - w.2.1) (r.2.2.2.1 - w.2.2.1))).room s m args below meth c s.heap [] 0 0 (vx_MQ below (am_Qc D dA base sg r) (am_XC D dA base sg r) args s (r.2.2.1 - w.2.1) (r.2.2.2.1 - w.2.2.1) (am_A base)) (entryFrame m args (am_ml y)) := by
    intro p e s m args below meth c s₁ B hml htab hv
    obtain ⟨rfl, hw, hE⟩ := hv
    have hts := atoms_spec (ws := am_wsy y) B.pre
    rw [lg_entry_eq]
    refine ih p e _ s m _ below meth c y 0 _ [] w r s.heap [] 0 0 _ _ _ h ⟨B.exec, B.bytes, hml, findClass_of_methodNamed B.named, fun w hw => hts w (List.mem_cons_of_mem _ hw), B.notSynchronized, fun hn => by rw [(name_of_methodNamed B.named B.method).1]; exact hn, B.returns, htab, hst, hE, Nat.le_refl _, Nat.le_refl _⟩ (am_ent_LH hl) hw va_S.rf (by omega) (by omega) (Nat.le_refl _) (Nat.le_refl _)
  by_cases hh : am_hh y = []
  · refine vx_ofW (cc := am_by y) (maxL := am_ml y) (ret := am_ry y) (ws' := am_aw) hpl (by unfold am_wsy am_cw; rw [if_pos hh]) ?_
    intro p e s m args below meth c s₁ B hml ht hv
    refine fin p e s m args below meth c s₁ B hml ?_ hv
    rw [hh]
    cases hq : c.exceptionTable.toList with
    | nil => rfl
    | cons x t => exact (ht x (by rw [hq]; exact List.mem_cons_self)).elim
  · refine vx_ofWH (cc := am_by y) (maxL := am_ml y) (ret := am_ry y) (hh := am_hh y) (ws' := am_aw) hpl (by unfold am_wsy am_cw; rw [if_neg hh]) ?_
    intro p e s m args below meth c s₁ B hml hv
    refine fin p e s m args below meth c s₁ B hml ?_ hv
    have hts := atoms_spec (ws := am_wsy y) B.pre
    have h1 := hts _ List.mem_cons_self
    unfold am_cw at h1
    rw [if_neg hh] at h1
    exact vx_table (x := am_yy y) B h1
theorem am_cal_ok {m n : Nat} (h : am_cal m n = true) : am_ml m ≤ 100 ∧ am_cw m ∈ am_aw ∧ plainName (am_ow m) = true ∧ (am_ow m ≠ "java/lang/invoke/MethodHandle" ∧ am_ow m ≠ "java/lang/invoke/VarHandle") ∧ (parseMethodDescriptor (am_yy m).desc).map (fun d => d.parameters.length) = some n := by
  unfold am_cal at h
  simp only [Bool.and_eq_true, decide_eq_true_eq] at h
  exact ⟨h.1.1.1.1, am_lw_ok h.1.1.1.2, h.1.1.2, h.1.2, h.2⟩
theorem am_gi {L ws : List Cond} (hL : ∀ w ∈ L, w ∈ am_aw) (hw : GoodIn am_aw ws) : GoodIn am_aw (L ++ ws) := by
  intro w h
  rcases List.mem_append.mp h with h1 | h1
  · exact ⟨hL w h1, good_of_word (List.mem_filter.mp (hL w h1)).2⟩
  · exact hw w h1
section AMD
variable {p : Program} {l : Launch} {e : Env} {R : Room} {s : State} {m : MethodId} {args : Array Value} {below : List Frame} {meth : Method} {c : Code} {H : Heap} {locs : List Loc} {cells slots : Nat} {Q : State → Prop}
variable {pc : Nat} {lsA : Array Slot} {D : va_G} {dA : Nat → ClassId} {base : Nat} {sg : am_Sg} {y : Nat}
theorem am_rest (st : List Value) {n : Nat} : st = ((st.take n).reverse).reverse ++ st.drop n := by
  rw [List.reverse_reverse, List.take_append_drop]
/-- a static call -/
theorem am_callS (C0 : am_Cx p l R s m args meth c D dA base sg y) {x y' n : Nat} (hdc : decode (am_by y) pc = .ok (.invokestatic x, 3)) {q q1 q2 : Nat}
    (hlk : (am_cal y' n && am_lw (.static (am_yy y')) q1 && am_lw (.initialized (am_ow y')) q2 && (am_lw (.methodLink (am_ow y) x (am_yy y')) q || (decide (am_hh y' = []) && am_hosts.any (fun h => am_ln (.methodLinkNest (am_ow y) x (am_yy y') h) q)))) = true)
    {st : List Value} (hn : n ≤ st.length) (hz8 : am_sz (st.drop n) ≤ 8) {w : am_Wd} {r1 : am_Out × am_Wd} {ls : am_Lc} (hl : am_LH lsA (am_ml y) ls) (hw : am_WR D dA base sg w H) (hS : va_S (am_A base) s.heap H locs) (hg : am_hg y' < am_hg y)
    (hM : plainName (am_ow y') = true → vx_Met l (am_yy y') (am_wsy y') (am_rm y' (r1.2.2.1 - w.2.1) (r1.2.2.2.1 - w.2.2.1)) (am_Pc D dA base sg (st.take n).reverse w) (am_Qc D dA base sg r1) (am_XC D dA base sg r1) (r1.2.2.1 - w.2.1) (r1.2.2.2.1 - w.2.2.1) (am_A base))
    (hR : cells + (r1.2.2.1 - w.2.1) ≤ R.cells ∧ slots + (r1.2.2.2.1 - w.2.2.1) ≤ R.slots) :
    vx_Run p l e R s m args below meth c H locs cells slots (r1.2.2.1 - w.2.1) (r1.2.2.2.1 - w.2.2.1) (F0 m pc lsA st) (st.drop n) (am_Qc D dA base sg r1 (st.take n).reverse.toArray) (am_XC D dA base sg r1) (am_A base) := by
  obtain ⟨hx, hb, hml, hown, hts, hlocks, hini, hrt, htab, hst, hE, hRf, hRl⟩ := C0
  simp only [Bool.and_eq_true, Bool.or_eq_true, decide_eq_true_eq] at hlk
  obtain ⟨⟨⟨hcal, l1⟩, l2⟩, l3⟩ := hlk
  obtain ⟨k1, k2, k3, k4, k5⟩ := am_cal_ok hcal
  have hp : PreS s H (am_Pc D dA base sg (st.take n).reverse w) (st.take n).reverse := ⟨am_Pc_blind, fun U hU hW => ⟨rfl, by rw [hU]; exact hw, hE.next hS hU hW⟩⟩
  have hlen : (st.take n).reverse.length = n := by rw [List.length_reverse, List.length_take]; omega
  have hroom : (am_rm y' (r1.2.2.1 - w.2.1) (r1.2.2.2.1 - w.2.2.1)).frames + 1 ≤ R.frames ∧ 8 + (am_ml y' + 11) + (am_rm y' (r1.2.2.1 - w.2.1) (r1.2.2.2.1 - w.2.2.1)).locals ≤ R.locals := ⟨by show 16 + am_hg y' + 1 ≤ _; omega, by show 8 + (am_ml y' + 11) + (400 + 200 * am_hg y') ≤ _; omega⟩
  rcases l3 with l3 | ⟨hh, l3⟩
  · have hgi : GoodIn am_aw (va_wsS (am_ow y) x (am_yy y') (am_wsy y')) := am_gi (fun w hw => by
      simp only [List.mem_cons, List.not_mem_nil, or_false] at hw
      rcases hw with rfl | rfl | rfl
      · exact am_lw_ok l3
      · exact am_lw_ok l1
      · exact am_lw_ok l2) (am_gd y' k2)
    by_cases hh : am_hh y' = []
    · have hws : am_wsy y' = Cond.code (am_yy y') (am_by y') (am_ml y') (am_ry y') :: am_aw := by unfold am_wsy am_cw; rw [if_pos hh]
      exact vx_runS (own := am_ow y) (nL := am_ml y) ⟨hx, hb, hml, hown, hts⟩ (hM k3) (va_cwS n hts hgi hws rfl rfl ⟨k4.1, k4.2, k5⟩ hroom) hp rfl hlen hl.2.1 (am_rest st) (lv_room hz8) hdc hR
    · have hws : am_wsy y' = Cond.codeWith (am_yy y') (am_by y') (am_ml y') (am_ry y') (am_hh y') :: am_aw := by unfold am_wsy am_cw; rw [if_neg hh]
      exact vx_runSX (own := am_ow y) (nL := am_ml y) ⟨hx, hb, hml, hown, hts⟩ (hM k3) (vx_cwSW n hts hgi hws rfl rfl ⟨k4.1, k4.2, k5⟩ hroom) hp rfl hlen hl.2.1 (am_rest st) (lv_room hz8) hdc hR
  · obtain ⟨h, -, l3⟩ := List.any_eq_true.mp l3
    have hws : am_wsy y' = Cond.code (am_yy y') (am_by y') (am_ml y') (am_ry y') :: am_aw := by unfold am_wsy am_cw; rw [if_pos hh]
    exact vx_runSN (own := am_ow y) (nL := am_ml y) ⟨hx, hb, hml, hown, hts⟩ (hM k3) ⟨va_cnB n hts (am_gd y' k2) hws rfl rfl (hE.2.1 _ (am_ln_ok l3)) (hts _ (am_lw_ok l2)) ⟨k4.1, k4.2, k5⟩ hroom, hts _ (am_lw_ok l1), trivial⟩ hp rfl hlen hl.2.1 (am_rest st) (lv_room hz8) hdc hR
/-- a constructor's call -/
theorem am_callI (C0 : am_Cx p l R s m args meth c D dA base sg y) {x y' n : Nat} (hdc : decode (am_by y) pc = .ok (.invokespecial x, 3)) {q q1 q2 : Nat}
    (hlk : (am_cal y' n && decide ((am_yy y').name = "<init>" ∧ am_hh y' = [] ∧ am_ry y' = none) && am_lw (.instanceMethod (am_yy y')) q1 && am_lw (.initialized (am_ow y')) q2 && (am_lw (.methodLink (am_ow y) x (am_yy y')) q || am_hosts.any (fun h => am_ln (.methodLinkNest (am_ow y) x (am_yy y') h) q))) = true)
    {st rest : List Value} {b : Nat} (hst : st.drop n = .ref b :: rest) (hn : n ≤ st.length) (hz8 : am_sz rest ≤ 8) {w : am_Wd} {r1 : am_Out × am_Wd} {ls : am_Lc} (hl : am_LH lsA (am_ml y) ls) (hw : am_WR D dA base sg w H) (hS : va_S (am_A base) s.heap H locs) (hg : am_hg y' < am_hg y)
    (hM : plainName (am_ow y') = true → vx_Met l (am_yy y') (am_wsy y') (am_rm y' (r1.2.2.1 - w.2.1) (r1.2.2.2.1 - w.2.2.1)) (am_Pc D dA base sg (.ref b :: (st.take n).reverse) w) (am_Qc D dA base sg r1) (am_XC D dA base sg r1) (r1.2.2.1 - w.2.1) (r1.2.2.2.1 - w.2.2.1) (am_A base))
    (hR : cells + (r1.2.2.1 - w.2.1) ≤ R.cells ∧ slots + (r1.2.2.2.1 - w.2.2.1) ≤ R.slots) :
    vx_Run p l e R s m args below meth c H locs cells slots (r1.2.2.1 - w.2.1) (r1.2.2.2.1 - w.2.2.1) (F0 m pc lsA st) rest (am_Qc D dA base sg r1 (Value.ref b :: (st.take n).reverse).toArray) (am_XC D dA base sg r1) (am_A base) := by
  obtain ⟨hx, hb, hml, hown, hts, hlocks, hini, hrt, htab, hst0, hE, hRf, hRl⟩ := C0
  simp only [Bool.and_eq_true, Bool.or_eq_true, decide_eq_true_eq] at hlk
  obtain ⟨⟨⟨⟨hcal, hin, hh, hret⟩, l1⟩, l2⟩, l3⟩ := hlk
  obtain ⟨k1, k2, k3, k4, k5⟩ := am_cal_ok hcal
  have hp : PreS s H (am_Pc D dA base sg (.ref b :: (st.take n).reverse) w) (.ref b :: (st.take n).reverse) := ⟨am_Pc_blind, fun U hU hW => ⟨rfl, by rw [hU]; exact hw, hE.next hS hU hW⟩⟩
  have hlen : (st.take n).reverse.length = n := by rw [List.length_reverse, List.length_take]; omega
  have hroom : (am_rm y' (r1.2.2.1 - w.2.1) (r1.2.2.2.1 - w.2.2.1)).frames + 1 ≤ R.frames ∧ 8 + (am_ml y' + 11) + (am_rm y' (r1.2.2.1 - w.2.1) (r1.2.2.2.1 - w.2.2.1)).locals ≤ R.locals := ⟨by show 16 + am_hg y' + 1 ≤ _; omega, by show 8 + (am_ml y' + 11) + (400 + 200 * am_hg y') ≤ _; omega⟩
  have hstk : st = ((st.take n).reverse).reverse ++ .ref b :: rest := by rw [← hst]; exact am_rest st
  have hws : am_wsy y' = Cond.code (am_yy y') (am_by y') (am_ml y') none :: am_aw := by unfold am_wsy am_cw; rw [if_pos hh, hret]
  rcases l3 with l3 | l3
  · exact vx_runI (own := am_ow y) (nL := am_ml y) ⟨hx, hb, hml, hown, hts⟩ (hM k3) (cwI n hts (am_gd y' k2) hws rfl rfl (hts _ (am_lw_ok l2)) (hts _ (am_lw_ok l3)) (hts _ (am_lw_ok l1)) hin ⟨k4.1, k4.2, k5⟩ hroom) hp rfl hlen hl.2.1 hstk (lv_room hz8) hdc hR
  · obtain ⟨h, -, l3⟩ := List.any_eq_true.mp l3
    exact vx_runIN (own := am_ow y) (nL := am_ml y) ⟨hx, hb, hml, hown, hts⟩ (hM k3) ⟨va_cnB n hts (am_gd y' k2) hws rfl rfl (hE.2.1 _ (am_ln_ok l3)) (hts _ (am_lw_ok l2)) ⟨k4.1, k4.2, k5⟩ hroom, hin, hts _ (am_lw_ok l1)⟩ hp rfl hlen hl.2.1 hstk (lv_room hz8) hdc hR
/-- a virtual call -/
theorem am_callV (C0 : am_Cx p l R s m args meth c D dA base sg y) {x y' n ci : Nat} {C : String} {T : u_T} {N : Nat} (hcl : am_cl[ci]? = some (C, T, N)) (hdc : decode (am_by y) pc = .ok (.invokevirtual x, 3)) {q q1 q2 q3 : Nat}
    (hlk : (am_cal y' n && decide (am_ow y' = C ∧ am_hh y' = []) && am_lw (.methodLink (am_ow y) x (am_yy y')) q && am_lw (.instanceMethod (am_yy y')) q1 && am_lw (.selects C (am_yy y') (am_yy y')) q2 && am_lw (.initialized C) q3) = true)
    {st rest : List Value} {b : Nat} (hst : st.drop n = .ref b :: rest) (hn : n ≤ st.length) (hz8 : am_sz rest ≤ 8) {w : am_Wd} {r1 : am_Out × am_Wd} {ls : am_Lc} {u : Unit} (hk : am_kf w b ci = some u) (hl : am_LH lsA (am_ml y) ls) (hw : am_WR D dA base sg w H) (hS : va_S (am_A base) s.heap H locs) (hg : am_hg y' < am_hg y)
    (hM : plainName (am_ow y') = true → vx_Met l (am_yy y') (am_wsy y') (am_rm y' (r1.2.2.1 - w.2.1) (r1.2.2.2.1 - w.2.2.1)) (am_Pc D dA base sg (.ref b :: (st.take n).reverse) w) (am_Qc D dA base sg r1) (am_XC D dA base sg r1) (r1.2.2.1 - w.2.1) (r1.2.2.2.1 - w.2.2.1) (am_A base))
    (hR : cells + (r1.2.2.1 - w.2.1) ≤ R.cells ∧ slots + (r1.2.2.2.1 - w.2.2.1) ≤ R.slots) :
    vx_Run p l e R s m args below meth c H locs cells slots (r1.2.2.1 - w.2.1) (r1.2.2.2.1 - w.2.2.1) (F0 m pc lsA st) rest (am_Qc D dA base sg r1 (Value.ref b :: (st.take n).reverse).toArray) (am_XC D dA base sg r1) (am_A base) := by
  obtain ⟨hx, hb, hml, hown, hts, hlocks, hini, hrt, htab, hst0, hE, hRf, hRl⟩ := C0
  simp only [Bool.and_eq_true, Bool.or_eq_true, decide_eq_true_eq] at hlk
  obtain ⟨⟨⟨⟨⟨hcal, hcls, hh⟩, l0⟩, l1⟩, l2⟩, l3⟩ := hlk
  obtain ⟨k1, k2, k3, k4, k5⟩ := am_cal_ok hcal
  have hp : PreV s H C b (am_Pc D dA base sg (.ref b :: (st.take n).reverse) w) (st.take n).reverse := ⟨am_Pc_blind, am_kf_rv hE.1 hE.2.2.2.2.2.2.2.2.1 hS hw hcl hk, fun U hU hW => ⟨rfl, by rw [hU]; exact hw, hE.next hS hU hW⟩⟩
  have hlen : (st.take n).reverse.length = n := by rw [List.length_reverse, List.length_take]; omega
  have hroom : (am_rm y' (r1.2.2.1 - w.2.1) (r1.2.2.2.1 - w.2.2.1)).frames + 1 ≤ R.frames ∧ 8 + (am_ml y' + 11) + (am_rm y' (r1.2.2.1 - w.2.1) (r1.2.2.2.1 - w.2.2.1)).locals ≤ R.locals := ⟨by show 16 + am_hg y' + 1 ≤ _; omega, by show 8 + (am_ml y' + 11) + (400 + 200 * am_hg y') ≤ _; omega⟩
  have hstk : st = ((st.take n).reverse).reverse ++ .ref b :: rest := by rw [← hst]; exact am_rest st
  have hws : am_wsy y' = Cond.code (am_yy y') (am_by y') (am_ml y') (am_ry y') :: am_aw := by unfold am_wsy am_cw; rw [if_pos hh]
  have hgi : GoodIn am_aw (wsV (am_ow y) x C (am_yy y') (am_wsy y')) := am_gi (fun w hw => by
      simp only [List.mem_cons, List.not_mem_nil, or_false] at hw
      rcases hw with rfl | rfl | rfl | rfl
      · exact am_lw_ok l0
      · exact am_lw_ok l1
      · exact am_lw_ok l2
      · exact am_lw_ok l3) (am_gd y' k2)
  exact vx_runV (own := am_ow y) (nL := am_ml y) ⟨hx, hb, hml, hown, hts⟩ (hM k3) (cwV n hts hgi hws rfl rfl ⟨hcls, k4.1, k4.2, k5⟩ hroom) hp rfl hlen hl.2.1 hstk (lv_room hz8) hdc hR
/-- a virtual call of an inherited member -/
theorem am_callU (C0 : am_Cx p l R s m args meth c D dA base sg y) {x y' n ci : Nat} {C : String} {T : u_T} {N : Nat} (hcl : am_cl[ci]? = some (C, T, N)) (hdc : decode (am_by y) pc = .ok (.invokevirtual x, 3)) {q q1 q2 q3 q4 : Nat}
    (hlk : (am_cal y' n && decide (am_hh y' = []) && am_lw (.methodLink (am_ow y) x (am_yy y')) q && am_lw (.sameMethod (am_ow y') (am_ow y') (am_yy y').name (am_yy y').desc) q1 && am_lw (.selects C (am_yy y') (am_yy y')) q2 && am_lw (.instanceMethod (am_yy y')) q3 && am_lw (.initialized (am_ow y')) q4) = true)
    {st rest : List Value} {b : Nat} (hst : st.drop n = .ref b :: rest) (hn : n ≤ st.length) (hz8 : am_sz rest ≤ 8) {w : am_Wd} {r1 : am_Out × am_Wd} {ls : am_Lc} {u : Unit} (hk : am_kf w b ci = some u) (hl : am_LH lsA (am_ml y) ls) (hw : am_WR D dA base sg w H) (hS : va_S (am_A base) s.heap H locs) (hg : am_hg y' < am_hg y)
    (hM : plainName (am_ow y') = true → vx_Met l (am_yy y') (am_wsy y') (am_rm y' (r1.2.2.1 - w.2.1) (r1.2.2.2.1 - w.2.2.1)) (am_Pc D dA base sg (.ref b :: (st.take n).reverse) w) (am_Qc D dA base sg r1) (am_XC D dA base sg r1) (r1.2.2.1 - w.2.1) (r1.2.2.2.1 - w.2.2.1) (am_A base))
    (hR : cells + (r1.2.2.1 - w.2.1) ≤ R.cells ∧ slots + (r1.2.2.2.1 - w.2.2.1) ≤ R.slots) :
    vx_Run p l e R s m args below meth c H locs cells slots (r1.2.2.1 - w.2.1) (r1.2.2.2.1 - w.2.2.1) (F0 m pc lsA st) rest (am_Qc D dA base sg r1 (Value.ref b :: (st.take n).reverse).toArray) (am_XC D dA base sg r1) (am_A base) := by
  obtain ⟨hx, hb, hml, hown, hts, hlocks, hini, hrt, htab, hst0, hE, hRf, hRl⟩ := C0
  simp only [Bool.and_eq_true, decide_eq_true_eq] at hlk
  obtain ⟨⟨⟨⟨⟨⟨hcal, hh⟩, l0⟩, l1⟩, l2⟩, l3⟩, l4⟩ := hlk
  obtain ⟨k1, k2, k3, k4, k5⟩ := am_cal_ok hcal
  have hp : PreV s H C b (am_Pc D dA base sg (.ref b :: (st.take n).reverse) w) (st.take n).reverse := ⟨am_Pc_blind, am_kf_rv hE.1 hE.2.2.2.2.2.2.2.2.1 hS hw hcl hk, fun U hU hW => ⟨rfl, by rw [hU]; exact hw, hE.next hS hU hW⟩⟩
  have hlen : (st.take n).reverse.length = n := by rw [List.length_reverse, List.length_take]; omega
  have hroom : (am_rm y' (r1.2.2.1 - w.2.1) (r1.2.2.2.1 - w.2.2.1)).frames + 1 ≤ R.frames ∧ 8 + (am_ml y' + 11) + (am_rm y' (r1.2.2.1 - w.2.1) (r1.2.2.2.1 - w.2.2.1)).locals ≤ R.locals := ⟨by show 16 + am_hg y' + 1 ≤ _; omega, by show 8 + (am_ml y' + 11) + (400 + 200 * am_hg y') ≤ _; omega⟩
  have hstk : st = ((st.take n).reverse).reverse ++ .ref b :: rest := by rw [← hst]; exact am_rest st
  have hws : am_wsy y' = Cond.code (am_yy y') (am_by y') (am_ml y') (am_ry y') :: am_aw := by unfold am_wsy am_cw; rw [if_pos hh]
  have hgi : GoodIn am_aw (va_wsU (am_ow y) x C (am_ow y') (am_yy y') (am_yy y') (am_wsy y')) := am_gi (fun w hw => by
      simp only [List.mem_cons, List.not_mem_nil, or_false] at hw
      rcases hw with rfl | rfl | rfl | rfl | rfl
      · exact am_lw_ok l0
      · exact am_lw_ok l1
      · exact am_lw_ok l2
      · exact am_lw_ok l3
      · exact am_lw_ok l4) (am_gd y' k2)
  exact vx_runU (own := am_ow y) (nL := am_ml y) ⟨hx, hb, hml, hown, hts⟩ (hM k3) (va_cwU n hts hgi hws rfl rfl rfl ⟨k4.1, k4.2, k5⟩ hroom) hp rfl hlen hl.2.1 hstk (lv_room hz8) hdc hR
/-- of an overriding one -/
theorem am_callO (C0 : am_Cx p l R s m args meth c D dA base sg y) {x y' n ci : Nat} {C : String} {T : u_T} {N : Nat} (hcl : am_cl[ci]? = some (C, T, N)) (hdc : decode (am_by y) pc = .ok (.invokevirtual x, 3)) {q q1 q2 q3 q4 q5 j : Nat}
    (hlk : (am_cal y' n && decide (am_hh y' = []) && am_lw (.methodLink (am_ow y) x ⟨"java/lang/AbstractStringBuilder", (am_yy y').name, (am_yy y').desc⟩) q && am_lw (.sameMethod "java/lang/AbstractStringBuilder" "java/lang/AbstractStringBuilder" (am_yy y').name (am_yy y').desc) q1 && am_lw (.instanceMethod ⟨"java/lang/AbstractStringBuilder", (am_yy y').name, (am_yy y').desc⟩) q2 && am_lw (.selects C ⟨"java/lang/AbstractStringBuilder", (am_yy y').name, (am_yy y').desc⟩ (am_yy y')) q3 && am_lw (.instanceMethod (am_yy y')) q4 && am_lw (.initialized (am_ow y')) q5 && decide (am_yy j = ⟨"java/lang/AbstractStringBuilder", (am_yy y').name, (am_yy y').desc⟩ ∧ am_hh j = []) && am_lw (am_cw j) (am_cp j)) = true)
    {st rest : List Value} {b : Nat} (hst : st.drop n = .ref b :: rest) (hn : n ≤ st.length) (hz8 : am_sz rest ≤ 8) {w : am_Wd} {r1 : am_Out × am_Wd} {ls : am_Lc} {u : Unit} (hk : am_kf w b ci = some u) (hl : am_LH lsA (am_ml y) ls) (hw : am_WR D dA base sg w H) (hS : va_S (am_A base) s.heap H locs) (hg : am_hg y' < am_hg y)
    (hM : plainName (am_ow y') = true → vx_Met l (am_yy y') (am_wsy y') (am_rm y' (r1.2.2.1 - w.2.1) (r1.2.2.2.1 - w.2.2.1)) (am_Pc D dA base sg (.ref b :: (st.take n).reverse) w) (am_Qc D dA base sg r1) (am_XC D dA base sg r1) (r1.2.2.1 - w.2.1) (r1.2.2.2.1 - w.2.2.1) (am_A base))
    (hR : cells + (r1.2.2.1 - w.2.1) ≤ R.cells ∧ slots + (r1.2.2.2.1 - w.2.2.1) ≤ R.slots) :
    vx_Run p l e R s m args below meth c H locs cells slots (r1.2.2.1 - w.2.1) (r1.2.2.2.1 - w.2.2.1) (F0 m pc lsA st) rest (am_Qc D dA base sg r1 (Value.ref b :: (st.take n).reverse).toArray) (am_XC D dA base sg r1) (am_A base) := by
  obtain ⟨hx, hb, hml, hown, hts, hlocks, hini, hrt, htab, hst0, hE, hRf, hRl⟩ := C0
  simp only [Bool.and_eq_true, decide_eq_true_eq] at hlk
  obtain ⟨⟨⟨⟨⟨⟨⟨⟨⟨hcal, hh⟩, l0⟩, l1⟩, l2⟩, l3⟩, l4⟩, l5⟩, hj⟩, l6⟩ := hlk
  obtain ⟨k1, k2, k3, k4, k5⟩ := am_cal_ok hcal
  have hp : PreV s H C b (am_Pc D dA base sg (.ref b :: (st.take n).reverse) w) (st.take n).reverse := ⟨am_Pc_blind, am_kf_rv hE.1 hE.2.2.2.2.2.2.2.2.1 hS hw hcl hk, fun U hU hW => ⟨rfl, by rw [hU]; exact hw, hE.next hS hU hW⟩⟩
  have hlen : (st.take n).reverse.length = n := by rw [List.length_reverse, List.length_take]; omega
  have hroom : (am_rm y' (r1.2.2.1 - w.2.1) (r1.2.2.2.1 - w.2.2.1)).frames + 1 ≤ R.frames ∧ 8 + (am_ml y' + 11) + (am_rm y' (r1.2.2.1 - w.2.1) (r1.2.2.2.1 - w.2.2.1)).locals ≤ R.locals := ⟨by show 16 + am_hg y' + 1 ≤ _; omega, by show 8 + (am_ml y' + 11) + (400 + 200 * am_hg y') ≤ _; omega⟩
  have hstk : st = ((st.take n).reverse).reverse ++ .ref b :: rest := by rw [← hst]; exact am_rest st
  have hws : am_wsy y' = Cond.code (am_yy y') (am_by y') (am_ml y') (am_ry y') :: am_aw := by unfold am_wsy am_cw; rw [if_pos hh]
  have hgi : GoodIn am_aw (va_wsO (am_ow y) x C "java/lang/AbstractStringBuilder" ⟨"java/lang/AbstractStringBuilder", (am_yy y').name, (am_yy y').desc⟩ (am_yy y') (am_wsy y')) := am_gi (fun w hw => by
      simp only [List.mem_cons, List.not_mem_nil, or_false] at hw
      rcases hw with rfl | rfl | rfl | rfl | rfl | rfl
      · exact am_lw_ok l0
      · exact am_lw_ok l1
      · exact am_lw_ok l2
      · exact am_lw_ok l3
      · exact am_lw_ok l4
      · exact am_lw_ok l5) (am_gd y' k2)
  have h0 := am_lw_ok l6
  unfold am_cw at h0
  rw [if_pos hj.2, hj.1] at h0
  exact vx_runU (own := am_ow y) (nL := am_ml y) ⟨hx, hb, hml, hown, hts⟩ (hM k3) (va_cwO n hts hgi hws rfl rfl h0 ⟨by decide, by decide, k5⟩ hroom) hp rfl hlen hl.2.1 hstk (lv_room hz8) hdc hR
/-- super.m(..) -/
theorem am_callSU (C0 : am_Cx p l R s m args meth c D dA base sg y) {x y' n ci : Nat} {C : String} {T : u_T} {N : Nat} (hcl : am_cl[ci]? = some (C, T, N)) (hdc : decode (am_by y) pc = .ok (.invokespecial x, 3)) {q q1 q2 q3 q4 : Nat}
    (hlk : (decide (ci < 12) && am_cal y' n && decide ((am_yy y').name ≠ "<init>" ∧ am_hh y' = []) && am_lw (.methodLink (am_ow y) x (am_yy y')) q && am_lw (.sameMethod (am_ow y') (am_ow y') (am_yy y').name (am_yy y').desc) q1 && am_lw (.superclass (am_ow y) (am_ow y')) q2 && am_lw (.instanceMethod (am_yy y')) q3 && am_lw (.initialized (am_ow y')) q4) = true)
    {st rest : List Value} {b : Nat} (hst : st.drop n = .ref b :: rest) (hn : n ≤ st.length) (hz8 : am_sz rest ≤ 8) {w : am_Wd} {r1 : am_Out × am_Wd} {ls : am_Lc} {u : Unit} (hk : am_kf w b ci = some u) (hl : am_LH lsA (am_ml y) ls) (hw : am_WR D dA base sg w H) (hS : va_S (am_A base) s.heap H locs) (hg : am_hg y' < am_hg y)
    (hM : plainName (am_ow y') = true → vx_Met l (am_yy y') (am_wsy y') (am_rm y' (r1.2.2.1 - w.2.1) (r1.2.2.2.1 - w.2.2.1)) (am_Pc D dA base sg (.ref b :: (st.take n).reverse) w) (am_Qc D dA base sg r1) (am_XC D dA base sg r1) (r1.2.2.1 - w.2.1) (r1.2.2.2.1 - w.2.2.1) (am_A base))
    (hR : cells + (r1.2.2.1 - w.2.1) ≤ R.cells ∧ slots + (r1.2.2.2.1 - w.2.2.1) ≤ R.slots) :
    vx_Run p l e R s m args below meth c H locs cells slots (r1.2.2.1 - w.2.1) (r1.2.2.2.1 - w.2.2.1) (F0 m pc lsA st) rest (am_Qc D dA base sg r1 (Value.ref b :: (st.take n).reverse).toArray) (am_XC D dA base sg r1) (am_A base) := by
  obtain ⟨hx, hb, hml, hown, hts, hlocks, hini, hrt, htab, hst0, hE, hRf, hRl⟩ := C0
  simp only [Bool.and_eq_true, decide_eq_true_eq] at hlk
  obtain ⟨⟨⟨⟨⟨⟨⟨hci, hcal⟩, hno, hh⟩, l0⟩, l1⟩, l2⟩, l3⟩, l4⟩ := hlk
  obtain ⟨k1, k2, k3, k4, k5⟩ := am_cal_ok hcal
  have hp : PreV s H C b (am_Pc D dA base sg (.ref b :: (st.take n).reverse) w) (st.take n).reverse := ⟨am_Pc_blind, am_kf_rv hE.1 hE.2.2.2.2.2.2.2.2.1 hS hw hcl hk, fun U hU hW => ⟨rfl, by rw [hU]; exact hw, hE.next hS hU hW⟩⟩
  have hlen : (st.take n).reverse.length = n := by rw [List.length_reverse, List.length_take]; omega
  have hroom : (am_rm y' (r1.2.2.1 - w.2.1) (r1.2.2.2.1 - w.2.2.1)).frames + 1 ≤ R.frames ∧ 8 + (am_ml y' + 11) + (am_rm y' (r1.2.2.1 - w.2.1) (r1.2.2.2.1 - w.2.2.1)).locals ≤ R.locals := ⟨by show 16 + am_hg y' + 1 ≤ _; omega, by show 8 + (am_ml y' + 11) + (400 + 200 * am_hg y') ≤ _; omega⟩
  have hstk : st = ((st.take n).reverse).reverse ++ .ref b :: rest := by rw [← hst]; exact am_rest st
  have hws : am_wsy y' = Cond.code (am_yy y') (am_by y') (am_ml y') (am_ry y') :: am_aw := by unfold am_wsy am_cw; rw [if_pos hh]
  have hgi : GoodIn am_aw (va_wsSU (am_ow y) x (am_yy y') (am_wsy y')) := am_gi (fun w hw => by
      simp only [List.mem_cons, List.not_mem_nil, or_false] at hw
      rcases hw with rfl | rfl | rfl | rfl | rfl
      · exact am_lw_ok l0
      · exact am_lw_ok l1
      · exact am_lw_ok l2
      · exact am_lw_ok l3
      · exact am_lw_ok l4) (am_gd y' k2)
  obtain ⟨-, hfc, kC, hkC, hkind⟩ := hE.1.1 ci _ hcl
  exact vx_runSU (own := am_ow y) (nL := am_ml y) ⟨hfc, kC, hkC, hkind⟩ ⟨hx, hb, hml, hown, hts⟩ (hM k3) (va_cwSU n hts hgi hws rfl rfl ⟨hno, k5⟩ hroom) hp rfl hlen hl.2.1 hstk (lv_room hz8) hdc hR
/-- an interface's -/
theorem am_callF (C0 : am_Cx p l R s m args meth c D dA base sg y) {x y' n ci cnt : Nat} {C : String} {T : u_T} {N : Nat} (hcl : am_cl[ci]? = some (C, T, N)) (hdc : decode (am_by y) pc = .ok (.invokeinterface x cnt, 5)) {q q1 q2 q3 : Nat}
    (hlk : (am_cal y' n && decide (am_hh y' = []) && am_ifs.any (fun z => decide (z.1 = C ∧ z.2.2 = am_yy y') && am_lw (.methodLink (am_ow y) x z.2.1) q && am_lw (.selects C z.2.1 (am_yy y')) q1 && am_lw (.instanceMethod (am_yy y')) q2 && am_lw (.initialized (am_ow y')) q3)) = true)
    {st rest : List Value} {b : Nat} (hst : st.drop n = .ref b :: rest) (hn : n ≤ st.length) (hz8 : am_sz rest ≤ 8) {w : am_Wd} {r1 : am_Out × am_Wd} {ls : am_Lc} {u : Unit} (hk : am_kf w b ci = some u) (hl : am_LH lsA (am_ml y) ls) (hw : am_WR D dA base sg w H) (hS : va_S (am_A base) s.heap H locs) (hg : am_hg y' < am_hg y)
    (hM : plainName (am_ow y') = true → vx_Met l (am_yy y') (am_wsy y') (am_rm y' (r1.2.2.1 - w.2.1) (r1.2.2.2.1 - w.2.2.1)) (am_Pc D dA base sg (.ref b :: (st.take n).reverse) w) (am_Qc D dA base sg r1) (am_XC D dA base sg r1) (r1.2.2.1 - w.2.1) (r1.2.2.2.1 - w.2.2.1) (am_A base))
    (hR : cells + (r1.2.2.1 - w.2.1) ≤ R.cells ∧ slots + (r1.2.2.2.1 - w.2.2.1) ≤ R.slots) :
    vx_Run5 p l e R s m args below meth c H locs cells slots (r1.2.2.1 - w.2.1) (r1.2.2.2.1 - w.2.2.1) (F0 m pc lsA st) rest (am_Qc D dA base sg r1 (Value.ref b :: (st.take n).reverse).toArray) (am_XC D dA base sg r1) (am_A base) := by
  obtain ⟨hx, hb, hml, hown, hts, hlocks, hini, hrt, htab, hst0, hE, hRf, hRl⟩ := C0
  simp only [Bool.and_eq_true, decide_eq_true_eq] at hlk
  obtain ⟨⟨hcal, hh⟩, hz⟩ := hlk
  obtain ⟨z, hz, hlk⟩ := List.any_eq_true.mp hz
  simp only [Bool.and_eq_true, decide_eq_true_eq] at hlk
  obtain ⟨⟨⟨⟨⟨z1, z2⟩, l0⟩, l1⟩, l2⟩, l3⟩ := hlk
  obtain ⟨k1, k2, k3, k4, k5⟩ := am_cal_ok hcal
  have hp : PreV s H C b (am_Pc D dA base sg (.ref b :: (st.take n).reverse) w) (st.take n).reverse := ⟨am_Pc_blind, am_kf_rv hE.1 hE.2.2.2.2.2.2.2.2.1 hS hw hcl hk, fun U hU hW => ⟨rfl, by rw [hU]; exact hw, hE.next hS hU hW⟩⟩
  have hlen : (st.take n).reverse.length = n := by rw [List.length_reverse, List.length_take]; omega
  have hroom : (am_rm y' (r1.2.2.1 - w.2.1) (r1.2.2.2.1 - w.2.2.1)).frames + 1 ≤ R.frames ∧ 8 + (am_ml y' + 11) + (am_rm y' (r1.2.2.1 - w.2.1) (r1.2.2.2.1 - w.2.2.1)).locals ≤ R.locals := ⟨by show 16 + am_hg y' + 1 ≤ _; omega, by show 8 + (am_ml y' + 11) + (400 + 200 * am_hg y') ≤ _; omega⟩
  have hstk : st = ((st.take n).reverse).reverse ++ .ref b :: rest := by rw [← hst]; exact am_rest st
  have hws : am_wsy y' = Cond.code (am_yy y') (am_by y') (am_ml y') (am_ry y') :: am_aw := by unfold am_wsy am_cw; rw [if_pos hh]
  have hgi : GoodIn am_aw (va_wsF (am_ow y) x C z.2.1 (am_yy y') (am_wsy y')) := am_gi (fun w hw => by
      simp only [List.mem_cons, List.not_mem_nil, or_false] at hw
      rcases hw with rfl | rfl | rfl | rfl
      · exact am_lw_ok l0
      · exact am_lw_ok l1
      · exact am_lw_ok l2
      · exact am_lw_ok l3) (am_gd y' k2)
  obtain ⟨-, hfc, kC, hkC, hkind⟩ := hE.1.1 ci _ hcl
  have hF : va_Fw C z.2.1 (am_yy y') s := by
    have h9 := hE.2.2.2.2.2.2.2.2.2.2.2.2.1 z hz
    rw [z1, z2] at h9
    exact h9
  have hdz : z.2.1.desc = (am_yy y').desc := by
    have h9 : ∀ z ∈ am_ifs, z.2.1.desc = z.2.2.desc := by decide +kernel
    rw [h9 z hz, z2]
  exact vx_runF (own := am_ow y) (nL := am_ml y) ⟨hfc, kC, hkC, hkind⟩ ⟨hx, hb, hml, hown, hts⟩ (hM k3) (va_cwF n hts hgi hws rfl rfl hF ⟨(am_ifs_ok z hz).1, (am_ifs_ok z hz).2, by rw [hdz]; exact k5⟩ hroom) hp rfl hlen hl.2.1 hstk (lv_room hz8) hdc hR
end AMD

