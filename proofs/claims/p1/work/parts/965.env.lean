section
/-! THE START: am_Env stands. Mine. -/
section AMEV
variable {args : Array Value} {s : State}
theorem am_nl_on : ∀ w ∈ am_nl, w.onTables = true := by decide +kernel
theorem am_strs_in : ∀ q ∈ am_strs, Cond.stringRef q.1 q.2.1 q.2.2.1 ∈ lw_tbl := by decide +kernel
theorem am_strs_ix : ∀ q ∈ am_strs, (am_sq1 (am_ixr q.2.2.2)).1 = q.1 ∧ (am_sq1 (am_ixr q.2.2.2)).2.1 = q.2.1 ∧ am_ixr q.2.2.2 < 20 ∧ 10 ≤ q.2.2.2 := by decide +kernel
theorem am_cst_in : ∀ q ∈ am_cst, Cond.castable q.1 q.2 ∈ lw_tbl := by decide +kernel
theorem am_dcl_in : ∀ w ∈ am_dcl, w ∈ lw_tbl := by decide +kernel
theorem am_ifs_in : ∀ q ∈ am_ifs, Cond.declares q.2.1 ∈ lw_tbl ∧ Cond.interfaceMethod q.2.1.cls q.2.1.cls q.2.1.name q.2.1.desc ∈ lw_tbl ∧ Cond.publicMethod q.2.2 ∈ lw_tbl ∧ Cond.unhidden q.1 q.2.1.name q.2.1.desc ∈ lw_tbl ∧ Cond.castable q.1 q.2.1.cls ∈ lw_tbl := by decide +kernel
theorem am_tabs_on : ∀ w ∈ am_dcl ++ am_cst.map (fun q => Cond.castable q.1 q.2), w.onTables = true := by decide +kernel
theorem am_exn_nc : ∀ E ∈ am_exn, ∀ E' ∈ am_exn, E ≠ E' → Cond.not (.castable E E') ∈ Jvm.Free.XT.flat narrow_1 := by decide +kernel
theorem am_Env0 {b n : Nat} {xs : Nat → Int32} (hts : ∀ w ∈ lw_tbl, w.before args s = true) (hg : (Jvm.Cond.and given_1 narrow_1).before args s = true) (hn : n < 2 ^ 31) (hX : va_T .int b n (fun j => .int (xs j)) (am_A s.heap.size) s s.heap) :
    ∃ (o e d : Nat) (K V : Nat → Nat) (x3 x4 : Option Nat) (D : va_G) (dA : Nat → ClassId), am_Giv o e d K V s.heap.size s ∧ am_Env D dA s.heap.size (am_s1g o e d K x3 x4, am_w1 (am_gL o e d K V) b n xs) s s.heap := by
  obtain ⟨K, V, hS, hK⟩ := am_lit hg
  obtain ⟨o, hO1, hO2, hO3⟩ := am_stO hts hg
  obtain ⟨d, hD1, hD2⟩ := am_stD hts hg
  obtain ⟨e, hE1, hE2⟩ := am_stE hts hg
  obtain ⟨x3, hT⟩ := am_stT hts hg
  obtain ⟨x4, hP⟩ := am_stP hts hg
  obtain ⟨D, dA, hKK⟩ := am_K0s hts
  have hGiv : am_Giv o e d K V s.heap.size s := ⟨hO2, hO3, hE2, hD2, hS, _, (hKK.1 12 _ (show am_cl[12]? = some (RJ0, TJ0, 4) from rfl)).2⟩
  have hU := am_stU hts hg
  refine ⟨o, e, d, K, V, x3, x4, D, dA, hGiv, hKK, fun w hw => va_any (am_nl_on w hw) (hts w (List.mem_filter.mp hw).1), hU.1, hU.2, fun q hq => ?_, va_AO.of (hts _ (am_ao_in _ List.mem_cons_self)), va_AO.of (hts _ (am_ao_in _ (List.mem_cons_of_mem _ List.mem_cons_self))), hts _ (am_ao_in _ (List.mem_cons_of_mem _ (List.mem_cons_of_mem _ List.mem_cons_self))), am_RO0 hGiv hn hX x3 x4, fun z hz => ?_, fun z hz => ?_, fun E hE E' hE' hne => ?_, fun q hq => ?_, fun q hq => ?_, fun w hw => ?_⟩
  · obtain ⟨h1, h2, h3, h4⟩ := am_strs_ix q hq
    refine ⟨K (am_ixr q.2.2.2), ?_, ?_⟩
    · show am_s1g o e d K x3 x4 q.2.2.2 = _
      unfold am_s1g am_ad
      rw [if_neg (by omega), if_neg (by omega), if_neg (by omega), if_neg (by omega), if_neg (by omega)]
    · refine vk_R.of (A := args) (hts _ (am_strs_in q hq)) ?_
      have := hK _ h3
      unfold am_tm at this
      rw [h1, h2] at this
      exact this
  · simp only [am_stats, List.mem_cons, List.not_mem_nil, or_false] at hz
    rcases hz with rfl | rfl | rfl | rfl | rfl
    · exact hO1
    · exact hE1
    · exact hD1
    · exact hT
    · exact hP
  · simp only [am_stati, List.mem_cons, List.not_mem_nil, or_false] at hz
    subst hz
    exact am_stC hts hg
  · rw [Cond.before_and, Bool.and_eq_true] at hg
    exact va_Nc.of (flat_of_before _ hg.2 _ (am_exn_nc E hE E' hE' hne))
  · obtain ⟨h1, h2, h3, h4, h5⟩ := am_ifs_in q hq
    exact va_Fw.of (hts _ h1) (hts _ h2) (hts _ h3) (hts _ h4) (hts _ h5)
  · exact va_any (am_tabs_on _ (List.mem_append_right _ (List.mem_map.mpr ⟨q, hq, rfl⟩))) (hts _ (am_cst_in q hq))
  · exact va_any (am_tabs_on _ (List.mem_append_left _ hw)) (hts _ (am_dcl_in w hw))
end AMEV
end
section
/-! THE START: the law's run. Mine. -/
theorem am_law_ent (b : Nat) : am_ent 269 [.ref b] = [some (.ref b), none, none, none, none, none, none, none] := by
  have h1 : am_ml 269 = 8 := by decide +kernel
  have h2 : ∃ l, am_dead 269 0 = l ∧ am_kill l [some (.ref b), none, none, none, none, none, none, none] = [some (.ref b), none, none, none, none, none, none, none] := ⟨_, rfl, rfl⟩
  obtain ⟨l, e1, e2⟩ := h2
  unfold am_ent am_nrm
  rw [e1, h1]
  exact e2
theorem am_law_sz : 16 + am_hg 269 ≤ room_1.frames ∧ 400 + 200 * am_hg 269 ≤ room_1.locals := by decide +kernel
theorem am_law_hh : am_hh 269 = [] := by decide +kernel
theorem am_law_by : am_by 269 = code := rfl
theorem am_law_ow : am_ow 269 = "BumpwardLaw" ∧ am_ry 269 = ret ∧ am_ml 269 = 8 := ⟨rfl, rfl, rfl⟩
theorem x35 {w : am_Wd} {a : Nat} : am_x 35 [.ref a] w = some (.inl none, w) := by
  simp only [bk35_0, bx35, Option.bind_some, bct_v, bct_t, otl_s, otl_n, List.cons_append, List.nil_append, List.getElem?_cons_zero, List.getElem?_cons_succ, ↓reduceIte]
theorem fO_ok : ∀ s, s < 4 → am_fO s = lN (oc s) := by
  intro s hs
  rcases (show s = 0 ∨ s = 1 ∨ s = 2 ∨ s = 3 by omega) with rfl | rfl | rfl | rfl <;> rfl
theorem ixr_ok : ∀ r, 24 ≤ r → r ≤ 28 → am_ixr r ∈ am_six ∧ (am_sq1 (am_ixr r)).2.2.1.length = (if r = 24 then 0 else if r = 28 then 3 else 1) := by
  intro r h1 h2
  have h : ∀ j : Fin 5, am_ixr (24 + j.val) ∈ am_six ∧ (am_sq1 (am_ixr (24 + j.val))).2.2.1.length = (if 24 + j.val = 24 then 0 else if 24 + j.val = 28 then 3 else 1) := by decide +kernel
  have q := h ⟨r - 24, by omega⟩
  rw [show 24 + (r - 24) = r by omega] at q
  exact q
theorem lit_ok : ∀ r, 24 ≤ r → r ≤ 28 → ∀ j, j < 3 → j < (if r = 24 then 0 else if r = 28 then 3 else 1) → (am_sq1 (am_ixr r)).2.2.1.getD j 0 = litS r j := by
  intro r h1 h2 j hj hj2
  have h : ∀ (a : Fin 5) (c : Fin 3), c.val < (if 24 + a.val = 24 then 0 else if 24 + a.val = 28 then 3 else 1) → (am_sq1 (am_ixr (24 + a.val))).2.2.1.getD c.val 0 = litS (24 + a.val) c.val := by decide +kernel
  have q := h ⟨r - 24, by omega⟩ ⟨j, hj⟩
  rw [show 24 + (r - 24) = r by omega] at q
  exact q hj2
section AMLW
variable {s : State} {o e d b L : Nat} {K V : Nat → Nat} {xs : Nat → Int32}
def am_w0 (o e d b L : Nat) (K V : Nat → Nat) (xs : Nat → Int32) (sz : Nat) (x3 x4 : Option Nat) : am_Wd := (am_w1 (am_gL o e d K V) b L xs, sz, 0, am_s1g o e d K x3 x4)
def g00 (e : Nat) : Nat → Nat := fun b => if b = e then 721 else 0
theorem st0 (h : am_Giv o e d K V s.heap.size s) (hX : va_T .int b L (fun j => .int (xs j)) (am_A s.heap.size) s s.heap) (x3 x4 : Option Nat) : StW (am_w0 o e d b L K V xs s.heap.size x3 x4) (g00 e) := by
  have qe := am_w1_e h hX
  have ne : ∀ {a : Nat} {y : am_En}, am_w1 (am_gL o e d K V) b L xs a = some y → y ≠ .inl (13, 0, .inr (.inr (.inr (.inr (fun _ => none))))) → g00 e a = 0 := fun {a y} q n => if_neg (fun z => by
    subst z
    rw [qe] at q
    exact n (Option.some.inj q).symm)
  have qo := am_w1_o h hX
  have qd := am_w1_d h hX
  refine ⟨⟨o, am_fO, ⟨rfl, qo, fO_ok⟩, am_w1_lt h hX qo, ne qo (fun z => by cases z)⟩, fun r r1 r2 => ?_, d, am_fD, rfl, qd, am_w1_lt h hX qd, ne qd (fun z => by cases z), fun i hi => by
    rcases (show i = 0 ∨ i = 1 ∨ i = 2 by omega) with rfl | rfl | rfl <;> rfl⟩
  obtain ⟨i1, i2⟩ := ixr_ok r r1 r2
  have qK := am_w1_K h hX i1
  obtain ⟨f, qV, hf, hfc⟩ := am_w1_Vc h hX i1
  refine ⟨K (am_ixr r), V (am_ixr r), f, ?_, qK, ?_, fun j h3 => ⟨hf j, fun hj => (hfc j (by rw [i2]; exact hj)).trans (lit_ok r r1 r2 j h3 hj)⟩, am_w1_lt h hX qK, am_w1_lt h hX qV, ne qK (fun z => by cases z), ne qV (fun z => by cases z)⟩
  · show am_s1g o e d K x3 x4 r = _
    unfold am_s1g am_ad
    rw [if_neg (by omega), if_neg (by omega), if_neg (by omega), if_neg (by omega), if_neg (by omega)]
  · rw [← i2]
    exact qV
theorem rc_g {w : am_Wd} {g g' : Nat → Nat} {x : Nat} {S : sS} (R : RC w g x S) (hg : ∀ b, g b ≠ 0 → g' b = g b) : RC w g' x S := by
  obtain ⟨kd, hr, cp, br, n, ws, mi, nd, dr, me, di, re⟩ := S
  obtain ⟨fl, ka, ha, wr, C, B, wad, h1, h2, h3, h4, h5, h6, g1, g2, g3, g4, g5⟩ := R
  exact ⟨fl, ka, ha, wr, C, B, wad, h1, h2, h3, h4, h5, fun i hi => (h6 i hi).g hg, (hg x (by omega)).trans g1, (hg fl (by omega)).trans g2, (hg ka (by omega)).trans g3, (hg ha (by omega)).trans g4, (hg wr (by omega)).trans g5⟩
theorem df9 : am_df 9 3 = [.long 0, .double 0, .null] := rfl
def S0 : sS := (fun _ => 0, fun _ => 0, fun _ => false, fun _ => false, 0, fun _ => (0, 0, 0, 0, 0, 0, 0, fun _ => false, fun _ => 0), 0, 7, nI 0, nI 0, nI 0, nI 0)
theorem ok0 : okS S0 := ⟨fun _ => Nat.zero_le 2, fun _ => (show (0 : Nat) < 16777216 by decide), fun _ _ _ => rfl, by decide, by decide, by decide, fun i hi => absurd hi (Nat.not_lt_zero i)⟩
/-- the objects are made -/
theorem am_made (h : am_Giv o e d K V s.heap.size s) (hL : L ≤ 2560) (hX : va_T .int b L (fun j => .int (xs j)) (am_A s.heap.size) s s.heap) (hbl : b < s.heap.size) (x3 x4 : Option Nat) :
    ∃ (w : am_Wd) (g : Nat → Nat) (x m u : Nat), am_x 269 [.ref b] (am_w0 o e d b L K V xs s.heap.size x3 x4) = am_run 269 27 [some (.ref b), some (.ref x), some (.ref m), some (.ref u), some (.int (nI 0)), none, none, none] [] w ∧ LI b L xs x m u S0 w g (s.heap.size + 100) 500 := by
  have hS := st0 h hX x3 x4
  have qe := am_w1_e h hX
  have le := am_w1_lt h hX qe
  have qb : (am_w0 o e d b L K V xs s.heap.size x3 x4).1 b = some (.inl (8, L, .inl xs)) := if_pos rfl
  have gb : g00 e b = 0 := if_neg (fun z => by
    subst z
    have q2 : am_w1 (am_gL o b d K V) b L xs b = some (.inl (8, L, .inl xs)) := if_pos rfl
    rw [qe] at q2
    cases q2)
  have hJ : gJ (am_w0 o e d b L K V xs s.heap.size x3 x4) (g00 e) := fun a ha => if_neg (fun z => by
    have ha : s.heap.size ≤ a := ha
    omega)
  have ge : g00 e e = 721 := if_pos rfl
  have w2 : (am_w0 o e d b L K V xs s.heap.size x3 x4).2.1 = s.heap.size := rfl
  have w3 : (am_w0 o e d b L K V xs s.heap.size x3 x4).2.2.1 = 0 := rfl
  have w4 : (am_w0 o e d b L K V xs s.heap.size x3 x4).2.2.2 1 = some e := rfl
  have qe' : cQ (am_w0 o e d b L K V xs s.heap.size x3 x4) e 13 0 (fun _ => none) := qe
  generalize am_w0 o e d b L K V xs s.heap.size x3 x4 = w0 at hS qb hJ w2 w3 w4 qe'
  -- the class's object
  have e1 : ext w0 (am_nw w0 (.inr (8, am_df 8 9)) 9) 1 9 := ext_nw
  have c1 : cO (am_nw w0 (.inr (8, am_df 8 9)) 9) w0.2.1 8 [.null, .null, .int 0, .int 0, .int 0, .int 0, .int 0, .int 0, .int 0] := nw_s
  obtain ⟨wA, a1, R1, o1, z1⟩ := x89 (g := g00 e) c1 rfl (fun _ => 0) (fun _ => (0, 0, 0, 0, 0, 0, 0, fun _ => false, fun _ => 0))
  have z1 : wA.2 = (w0.2.1 + 5, w0.2.2.1 + 9 + 151, w0.2.2.2) := z1
  have sA : stp 1 40 (g00 e) (gX (g00 e) w0.2.1) 100 200 w0 wA := by
    refine ⟨fun a ha _ => (o1 a ha).trans (e1.1 a ha), fun a ha => gX_o (Or.inl ha), fun a ha => ?_, fun a ha => ?_, ?_⟩
    · by_cases q : a < w0.2.1 + 5
      · refine Or.inr ?_
        unfold gX
        rcases (show a = w0.2.1 ∨ a = w0.2.1 + 1 ∨ a = w0.2.1 + 2 ∨ a = w0.2.1 + 3 ∨ a = w0.2.1 + 4 by omega) with rfl | rfl | rfl | rfl | rfl
        · rw [if_pos rfl]; decide
        · rw [if_neg (by omega), if_pos rfl]; decide
        · rw [if_neg (by omega), if_neg (by omega), if_pos rfl]; decide
        · rw [if_neg (by omega), if_neg (by omega), if_neg (by omega), if_pos rfl]; decide
        · rw [if_neg (by omega), if_neg (by omega), if_neg (by omega), if_neg (by omega), if_pos rfl]; decide
      · rw [gX_o (Or.inr (by omega))]
        exact Or.inl (hJ a ha)
    · rw [z1] at ha
      have ha : w0.2.1 + 5 ≤ a := ha
      rw [gX_o (Or.inr ha)]
      exact hJ a (by omega)
    · rw [z1]
      exact ⟨Nat.le_add_right _ _, by show w0.2.1 + 5 ≤ w0.2.1 + 100; omega, by show w0.2.2.1 ≤ w0.2.2.1 + 9 + 151; omega, by show w0.2.2.1 + 9 + 151 ≤ w0.2.2.1 + 200; omega, rfl⟩
  have RA : RC wA (gX (g00 e) w0.2.1) w0.2.1 S0 := ⟨_, _, _, _, _, _, _, R1⟩
  have hSA := hS.stp (by decide) sA
  have hJA := stp_J sA
  have lA : wA.2.1 = w0.2.1 + 5 := by rw [z1]
  have kA : wA.2.2.1 = w0.2.2.1 + 160 := by rw [z1]
  have eA : wA.2.2.2 1 = some e := by rw [z1]; exact w4
  have cA : cQ wA e 13 0 (fun _ => none) := cQ_of qe' (sA.1 e (by omega) (Or.inr (by rw [ge]; decide)))
  have gA : gX (g00 e) w0.2.1 e = 721 := (sA.2.1 e (by omega)).trans ge
  have bA : cI wA b 8 L xs := cI_of qb (sA.1 b (by omega) (Or.inl (by rw [gb]; decide)))
  have gbA : gX (g00 e) w0.2.1 b = 0 := (sA.2.1 b (by omega)).trans gb
  have a1' : am_x 89 [.ref w0.2.1] (am_nw w0 (.inr (8, am_df 8 9)) 9) = some (.inl none, wA) := a1
  have lx : w0.2.1 < wA.2.1 := by omega
  generalize gX (g00 e) w0.2.1 = gAA at RA hSA hJA gA gbA
  -- the reference's object
  obtain ⟨wB, a2, R2, sB'⟩ := x172 wA hJA eA cA gA (fun _ => 0) (fun _ => (0, 0, 0, 0, 0, 0, 0, fun _ => false, fun _ => 0))
  have RB := rc_stp ok0 RA hJA sB'
  have NB : RN wB (gN gAA wA.2.1) wA.2.1 S0 0 := ⟨_, _, _, _, _, _, _, R2⟩
  have hSB := hSA.stp (by decide) sB'
  have hJB := stp_J sB'
  obtain ⟨p1, p2, p3, p4, p5, p6, p7, p8, p9⟩ := sB'
  have bB : cI wB b 8 L xs := cI_of bA (p1 b (by omega) (Or.inl (by omega)))
  have gbB : gN gAA wA.2.1 b = 0 := (p2 b (by omega)).trans gbA
  generalize gN gAA wA.2.1 = gB at RB NB hSB hJB gbB
  -- the law's own object
  have e3 : ext wB (am_nw wB (.inr (9, am_df 9 3)) 3) 1 3 := ext_nw
  have c3 : cO (am_nw wB (.inr (9, am_df 9 3)) 3) wB.2.1 9 [.long 0, .double 0, .null] := nw_s
  have gu : gB wB.2.1 = 0 := hJB _ (Nat.le_refl _)
  have sC : stp 900 901 gB (up gB wB.2.1 900) 1 3 wB (am_nw wB (.inr (9, am_df 9 3)) 3) := by
    refine ⟨fun a ha _ => e3.1 a ha, fun a ha => up_n (by omega), fun a ha => ?_, fun a ha => ?_, Nat.le_succ _, Nat.le_refl _, Nat.le_add_right _ _, Nat.le_refl _, rfl⟩
    · by_cases q : a = wB.2.1
      · subst q
        rw [up_s]
        exact Or.inr ⟨by decide, by decide⟩
      · rw [up_n q]
        exact Or.inl (hJB a ha)
    · have ha : wB.2.1 + 1 ≤ a := ha
      rw [up_n (by omega)]
      exact hJB a (by omega)
  have RD : RC (am_nw wB (.inr (9, am_df 9 3)) 3) gB w0.2.1 S0 := by
    obtain ⟨fl, ka, ha, wr, C, B, wad, R⟩ := RB
    exact ⟨fl, ka, ha, wr, C, B, wad, rc_ext R (by decide) hJB e3⟩
  have RD := rc_g RD (up_g gu (t := 900))
  have ND : RN (am_nw wB (.inr (9, am_df 9 3)) 3) (up gB wB.2.1 900) wA.2.1 S0 0 := by
    obtain ⟨kq, hq, ca, ba, wl, ed, wad, R⟩ := NB
    exact ⟨kq, hq, ca, ba, wl, ed, wad, rm_g (rm_ext R (by decide) hJB e3) (up_g gu)⟩
  have hSD := hSB.stp (by decide) sC
  have hJD := stp_J sC
  refine ⟨am_nw wB (.inr (9, am_df 9 3)) 3, up gB wB.2.1 900, w0.2.1, wA.2.1, wB.2.1, ?_, ok0, RD, ⟨0, ND⟩, hJD, hSD, ⟨cI_of bB (e3.1 b (by omega)), by show b < wB.2.1 + 1; omega, (up_n (by omega)).trans gbB, hL⟩, ⟨0, 0, .null, c3⟩, up_s, by show wB.2.1 + 1 ≤ s.heap.size + 100; omega, by show wB.2.2.1 + 3 ≤ 500; omega⟩
  simp only [bx269, bk269_0, bk269_3, a1', bk269_7, bk269_11, a2, bk269_15, bk269_19, x35, bk269_23, Option.bind_some, bct_v, bct_t, otl_s, otl_n, List.cons_append, List.nil_append, List.getElem?_cons_zero, List.getElem?_cons_succ, ↓reduceIte]
theorem am_law_run (hL : L ≤ 2560) (h : am_Giv o e d K V s.heap.size s) (hX : va_T .int b L (fun j => .int (xs j)) (am_A s.heap.size) s s.heap) (hbl : b < s.heap.size) (x3 x4 : Option Nat) :
    ∃ r, am_run 269 0 (am_ent 269 [.ref b]) [] (am_w1 (am_gL o e d K V) b L xs, s.heap.size, 0, am_s1g o e d K x3 x4) = some r ∧ r.1 = .inl (some (.int 1)) ∧ r.2.2.1 ≤ s.heap.size + 599124 ∧ r.2.2.2.1 ≤ 7291346 := by
  obtain ⟨w, g, x, m, u, a, hI⟩ := am_made h hL hX hbl x3 x4
  obtain ⟨w', t, l1, l2⟩ := law_go 512 0 S0 w g _ _ (by omega) (by decide) hI
  exact ⟨_, a.trans t, rfl, by show w'.2.1 ≤ _; omega, by show w'.2.2.1 ≤ _; omega⟩
end AMLW
end
section
/-! THE CLAIM OUT OF ONE WALK OF THE LAW'S BODY. Your part is whole_start (and what it stands on); all else here is the same for every law, but numbers. -/
def R_law : String := "BumpwardLaw"
def lw_P (b : Addr) (xs : List Int32) (args : Array Value) (s : State) : Prop := args = #[.ref b] ∧ s.IntsAt b xs ∧ xs.length ≤ 2560 ∧ (Jvm.Cond.and given_1 narrow_1).before args s = true
/-- what a walk over the start with the record d0 says of its end, said of the start itself -/
theorem lw_closed {s t : State} {o : Outcome} {d0 : Drawn} {L : List Loc} {k n : Nat} (hd0 : s.drawn.sameBut d0 lw_cs) (hv : ∃ v, o = .returned v) (hW : (s.setDrawn d0).WarmedH t.vm) (hs : (s.setDrawn d0).sameButNew ({ t with vm := s.vm } : State) L k n) : State.butDraws s t lw_cs (fun t1 => Framed s o t1 L k n) := by
  have h2 : t.drawn = d0 := congrArg State.drawn hs.1
  refine ⟨⟨hv, hW, State.sameButNew.setDrawn hs s.drawn⟩, ?_, by decide⟩
  rw [h2]
  exact hd0
def lw_Q (_ : Array Value) (s : State) (o : Outcome) (t : State) : Prop := o = .returned (some (.int 1)) ∧ State.butDraws s t lw_cs (fun t1 => Framed s o t1 [] 600002 7302232)
def lw_Z (below : List Frame) (a : Array Value) (s : State) : State → Prop := fun t => ∃ o, t.status = .running ∧ Ended t below o ∧ lw_Q a s o t
/-- the law's own end, with 1 on the stack, nothing written that was there before, its room as the claim has it; d0: the record of draws at this point (at the entry s.drawn: begin with 'refine W.base ?_' and 'have hd0 := Drawn.sameBut.refl s.drawn lw_cs') -/
theorem lw_ret {p : Program} {l : Launch} {e : Env} {s : State} {m : MethodId} {below : List Frame} {meth : Method} {c : Code} {b : Nat} {d0 : Drawn} (hd0 : s.drawn.sameBut d0 lw_cs) (hx : p.tables.exec = Jvm.exec) (hb : c.code = code) (hr : meth.sig.returnType = ret) (hlocks : meth.locks = false) {pc : Nat} {H : Heap} {ls : Array Slot} (hdg : decode code pc = .ok (.ireturn, 1)) : W p l e room_1 (s.setDrawn d0) m #[Value.ref b] below meth c H [] 600002 7302232 (lw_Z below #[Value.ref b] s) (F0 m pc ls [.int 1]) := by
  intro T hT X
  obtain ⟨fs, hret, hrun, hended, hW, hframe⟩ := X.leave (v := some (.int 1)) (hlocks := hlocks) (fun h => by rw [hr] at h; cases h)
  have hmeth' : T.vm.method? m = some meth := X.method'
  refine ⟨T.setFrames fs, ?_, .returned (some (.int 1)), hrun, hended, rfl, lw_closed hd0 ⟨_, rfl⟩ hW hframe⟩
  jvm_step X.here [X.here.top, hx, hb, hdg, hmeth', hr, ret, narrow_b1]
  (try refine ⟨rfl, ?_⟩); (try refine ⟨rfl, ?_⟩)
  first | (intro acts; rw [hret _ acts rfl rfl rfl]) | rw [hret _ _ rfl rfl rfl]
  exact Steps.refl _
/-- what holds at the law's entry: the machine, the code, the tables' words (any of lw_tbl by 'hts w (by decide +kernel)'), the script of L ints xs at the cell b, what the Statement gives of the start (any of its parts by flat_of_before) -/
def lw_At (p : Program) (s : State) (m : MethodId) (meth : Method) (c : Code) (b L : Nat) (xs : Nat → Int32) : Prop :=
  p.tables.exec = Jvm.exec ∧ c.code = code ∧ meth.sig.returnType = ret ∧ c.maxLocals = 8 ∧ s.vm.findClass R_law = some m.cls ∧ (∀ w ∈ lw_tbl, w.before #[Value.ref b] s = true) ∧ va_X b L xs s s.heap ∧ b < s.heap.size ∧ meth.locks = false ∧ (Jvm.Cond.and given_1 narrow_1).before #[Value.ref b] s = true ∧ c.exceptionTable.toList = []
section AMWS
theorem am_start {p : Program} {e : Env} {s : State} {m : MethodId} {below : List Frame} {meth : Method} {c : Code} (l : Launch) (hst : l.stackTraces = false) (hok : ∀ y, am_okm y = true) (hck : ∀ y, am_hck y = true) {b L : Nat} {xs : Nat → Int32} (hL : L ≤ 2560) (C0 : lw_At p s m meth c b L xs) : W p l e room_1 s m #[Value.ref b] below meth c s.heap [] 0 0 (lw_Z below #[Value.ref b] s) (entryFrame m ([Value.ref b] : List Value).toArray 8) := by
  obtain ⟨hx, hcode, hret, hml, hown, hts, hX0, hbl, hlk, hgv, htab⟩ := C0
  have hX := am_X_T hX0 hbl
  obtain ⟨o, e', d, K, V, x3, x4, D, dA, hG, hE⟩ := am_Env0 hts hgv (show L < 2 ^ 31 by omega) hX
  obtain ⟨r, hr, hr1, hr2, hr3⟩ := am_law_run hL hG hX hbl x3 x4
  obtain ⟨n, hn⟩ := am_run_to hr
  have hlen : (am_xp [Value.ref b]).length ≤ am_ml 269 := by
    show 1 ≤ am_ml 269
    rw [am_law_ow.2.2]
    decide
  have hC : am_Cx p l room_1 s m #[Value.ref b] meth c D dA s.heap.size (am_s1g o e' d K x3 x4, am_w1 (am_gL o e' d K V) b L xs) 269 := by
    refine ⟨hx, hcode, hml, hown, am_hts hts, hlk, fun q => ?_, hret, ?_, hst, hE, am_law_sz.1, am_law_sz.2⟩
    · exact absurd q (by decide +kernel)
    · rw [htab, am_law_hh]; rfl
  have hW := am_sim (l := l) (D := D) (dA := dA) (base := s.heap.size) (sg := (am_s1g o e' d K x3 x4, am_w1 (am_gL o e' d K V) b L xs)) hst hok hck n p e room_1 s m #[Value.ref b] below meth c 269 0 _ [] _ r s.heap [] 0 0 600002 7302232 _ hn hC (am_ent_LH hlen) (am_WR0 D dA x3 x4) va_S.rf (by show 0 + (r.2.2.1 - s.heap.size) ≤ 600002; omega) (by show 0 + (r.2.2.2.1 - 0) ≤ 7302232; omega) (by decide) (by decide)
  intro T hT X
  have he : entryFrame m ([Value.ref b] : List Value).toArray 8 = entryFrame m ([Value.ref b] : List Value).toArray (am_ml 269) := by rw [am_law_ow.2.2]
  rw [he, lg_entry_eq]
  obtain ⟨t, h1, oc, h2, h3, h4⟩ := hW T hT X
  refine ⟨t, h1, oc, h2, h3, ?_⟩
  rcases h4 with ⟨⟨⟨v, q1, rfl⟩, -, -⟩, J, ⟨-, hWm, hsb⟩, hJ⟩ | ⟨q, -, hT1⟩
  · have hv : v = some (.int 1) := by
      rw [hr1] at q1
      exact (Sum.inl.inj q1).symm
    subst hv
    have hd0 := Drawn.sameBut.refl s.drawn lw_cs
    have hsb2 : s.sameButNew ({ t with vm := s.vm } : State) [] 600002 7302232 := State.sameButNew.drop_fresh (L := []) hsb (fun z hz => hJ z hz)
    exact ⟨rfl, lw_closed hd0 ⟨_, rfl⟩ hWm hsb2⟩
  · obtain ⟨E, ce, J, ⟨q1, -, -⟩, -⟩ := hT1
    rw [hr1] at q1
    cases q1
end AMWS
end
