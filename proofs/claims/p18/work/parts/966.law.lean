/-! THE START: the law's run. Mine. -/
theorem am_law_ent (b : Nat) : am_ent 269 [.ref b] = [some (.ref b), none, none, none, none, none, none, none] := by
  have h1 : am_ml 269 = 8 := by decide +kernel
  have h2 : ∃ l, am_dead 269 0 = l ∧ am_kill l [some (.ref b), none, none, none, none, none, none, none] = [some (.ref b), none, none, none, none, none, none, none] := ⟨_, rfl, rfl⟩
  obtain ⟨l, e1, e2⟩ := h2
  unfold am_ent am_nrm
  rw [e1, h1]
  exact e2
theorem am_law_sz : 16 + am_hg 269 ≤ room_1.frames ∧ 400 + 200 * am_hg 269 ≤ room_1.locals := by decide +kernel
theorem am_law_hh : am_hh 269 = [] := by decide +kernel
theorem am_law_by : am_by 269 = code := rfl
theorem am_law_ow : am_ow 269 = "BumpwardLaw" ∧ am_ry 269 = ret ∧ am_ml 269 = 8 := ⟨rfl, rfl, rfl⟩
theorem x35 {w : am_Wd} {a : Nat} : am_x 35 [.ref a] w = some (.inl none, w) := by
  simp only [bk35_0, bx35, Option.bind_some, bct_v, bct_t, otl_s, otl_n, List.cons_append, List.nil_append, List.getElem?_cons_zero, List.getElem?_cons_succ, ↓reduceIte]
theorem fO_ok : ∀ s, s < 4 → am_fO s = lN (oc s) := by
  intro s hs
  rcases (show s = 0 ∨ s = 1 ∨ s = 2 ∨ s = 3 by omega) with rfl | rfl | rfl | rfl <;> rfl
theorem ixr_ok : ∀ r, 24 ≤ r → r ≤ 28 → am_ixr r ∈ am_six ∧ (am_sq1 (am_ixr r)).2.2.1.length = (if r = 24 then 0 else if r = 28 then 3 else 1) := by
  intro r h1 h2
  have h : ∀ j : Fin 5, am_ixr (24 + j.val) ∈ am_six ∧ (am_sq1 (am_ixr (24 + j.val))).2.2.1.length = (if 24 + j.val = 24 then 0 else if 24 + j.val = 28 then 3 else 1) := by decide +kernel
  have q := h ⟨r - 24, by omega⟩
  rw [show 24 + (r - 24) = r by omega] at q
  exact q
theorem lit_ok : ∀ r, 24 ≤ r → r ≤ 28 → ∀ j, j < 3 → j < (if r = 24 then 0 else if r = 28 then 3 else 1) → (am_sq1 (am_ixr r)).2.2.1.getD j 0 = litS r j := by
  intro r h1 h2 j hj hj2
  have h : ∀ (a : Fin 5) (c : Fin 3), c.val < (if 24 + a.val = 24 then 0 else if 24 + a.val = 28 then 3 else 1) → (am_sq1 (am_ixr (24 + a.val))).2.2.1.getD c.val 0 = litS (24 + a.val) c.val := by decide +kernel
  have q := h ⟨r - 24, by omega⟩ ⟨j, hj⟩
  rw [show 24 + (r - 24) = r by omega] at q
  exact q hj2
section AMLW
variable {s : State} {o e d b L : Nat} {K V : Nat → Nat} {xs : Nat → Int32}
def am_w0 (o e d b L : Nat) (K V : Nat → Nat) (xs : Nat → Int32) (sz : Nat) (x3 x4 : Option Nat) : am_Wd := (am_w1 (am_gL o e d K V) b L xs, sz, 0, am_s1g o e d K x3 x4)
def g00 (e : Nat) : Nat → Nat := fun b => if b = e then 721 else 0
theorem st0 (h : am_Giv o e d K V s.heap.size s) (hX : va_T .int b L (fun j => .int (xs j)) (am_A s.heap.size) s s.heap) (x3 x4 : Option Nat) : StW (am_w0 o e d b L K V xs s.heap.size x3 x4) (g00 e) := by
  have qe := am_w1_e h hX
  have ne : ∀ {a : Nat} {y : am_En}, am_w1 (am_gL o e d K V) b L xs a = some y → y ≠ .inl (13, 0, .inr (.inr (.inr (.inr (fun _ => none))))) → g00 e a = 0 := fun {a y} q n => if_neg (fun z => by
    subst z
    rw [qe] at q
    exact n (Option.some.inj q).symm)
  have qo := am_w1_o h hX
  have qd := am_w1_d h hX
  refine ⟨⟨o, am_fO, ⟨rfl, qo, fO_ok⟩, am_w1_lt h hX qo, ne qo (fun z => by cases z)⟩, fun r r1 r2 => ?_, d, am_fD, rfl, qd, am_w1_lt h hX qd, ne qd (fun z => by cases z), fun i hi => by
    rcases (show i = 0 ∨ i = 1 ∨ i = 2 by omega) with rfl | rfl | rfl <;> rfl⟩
  obtain ⟨i1, i2⟩ := ixr_ok r r1 r2
  have qK := am_w1_K h hX i1
  obtain ⟨f, qV, hf, hfc⟩ := am_w1_Vc h hX i1
  refine ⟨K (am_ixr r), V (am_ixr r), f, ?_, qK, ?_, fun j h3 => ⟨hf j, fun hj => (hfc j (by rw [i2]; exact hj)).trans (lit_ok r r1 r2 j h3 hj)⟩, am_w1_lt h hX qK, am_w1_lt h hX qV, ne qK (fun z => by cases z), ne qV (fun z => by cases z)⟩
  · show am_s1g o e d K x3 x4 r = _
    unfold am_s1g am_ad
    rw [if_neg (by omega), if_neg (by omega), if_neg (by omega), if_neg (by omega), if_neg (by omega)]
  · rw [← i2]
    exact qV
theorem rc_g {w : am_Wd} {g g' : Nat → Nat} {x : Nat} {S : sS} (R : RC w g x S) (hg : ∀ b, g b ≠ 0 → g' b = g b) : RC w g' x S := by
  obtain ⟨kd, hr, cp, br, n, ws, mi, nd, dr, me, di, re⟩ := S
  obtain ⟨fl, ka, ha, wr, C, B, wad, h1, h2, h3, h4, h5, h6, g1, g2, g3, g4, g5⟩ := R
  exact ⟨fl, ka, ha, wr, C, B, wad, h1, h2, h3, h4, h5, fun i hi => (h6 i hi).g hg, (hg x (by omega)).trans g1, (hg fl (by omega)).trans g2, (hg ka (by omega)).trans g3, (hg ha (by omega)).trans g4, (hg wr (by omega)).trans g5⟩
theorem df9 : am_df 9 3 = [.long 0, .double 0, .null] := rfl
def S0 : sS := (fun _ => 0, fun _ => 0, fun _ => false, fun _ => false, 0, fun _ => (0, 0, 0, 0, 0, 0, 0, fun _ => false, fun _ => 0), 0, 7, nI 0, nI 0, nI 0, nI 0)
theorem ok0 : okS S0 := ⟨fun _ => Nat.zero_le 2, fun _ => (show (0 : Nat) < 16777216 by decide), fun _ _ _ => rfl, by decide, by decide, by decide, fun i hi => absurd hi (Nat.not_lt_zero i)⟩
/-- the objects are made -/
theorem am_made (h : am_Giv o e d K V s.heap.size s) (hL : L ≤ 2560) (hX : va_T .int b L (fun j => .int (xs j)) (am_A s.heap.size) s s.heap) (hbl : b < s.heap.size) (x3 x4 : Option Nat) :
    ∃ (w : am_Wd) (g : Nat → Nat) (x m u : Nat), am_x 269 [.ref b] (am_w0 o e d b L K V xs s.heap.size x3 x4) = am_run 269 27 [some (.ref b), some (.ref x), some (.ref m), some (.ref u), some (.int (nI 0)), none, none, none] [] w ∧ LI b L xs x m u S0 w g (s.heap.size + 100) 500 := by
  have hS := st0 h hX x3 x4
  have qe := am_w1_e h hX
  have le := am_w1_lt h hX qe
  have qb : (am_w0 o e d b L K V xs s.heap.size x3 x4).1 b = some (.inl (8, L, .inl xs)) := if_pos rfl
  have gb : g00 e b = 0 := if_neg (fun z => by
    subst z
    have q2 : am_w1 (am_gL o b d K V) b L xs b = some (.inl (8, L, .inl xs)) := if_pos rfl
    rw [qe] at q2
    cases q2)
  have hJ : gJ (am_w0 o e d b L K V xs s.heap.size x3 x4) (g00 e) := fun a ha => if_neg (fun z => by
    have ha : s.heap.size ≤ a := ha
    omega)
  have ge : g00 e e = 721 := if_pos rfl
  have w2 : (am_w0 o e d b L K V xs s.heap.size x3 x4).2.1 = s.heap.size := rfl
  have w3 : (am_w0 o e d b L K V xs s.heap.size x3 x4).2.2.1 = 0 := rfl
  have w4 : (am_w0 o e d b L K V xs s.heap.size x3 x4).2.2.2 1 = some e := rfl
  have qe' : cQ (am_w0 o e d b L K V xs s.heap.size x3 x4) e 13 0 (fun _ => none) := qe
  generalize am_w0 o e d b L K V xs s.heap.size x3 x4 = w0 at hS qb hJ w2 w3 w4 qe'
  -- the class's object
  have e1 : ext w0 (am_nw w0 (.inr (8, am_df 8 9)) 9) 1 9 := ext_nw
  have c1 : cO (am_nw w0 (.inr (8, am_df 8 9)) 9) w0.2.1 8 [.null, .null, .int 0, .int 0, .int 0, .int 0, .int 0, .int 0, .int 0] := nw_s
  obtain ⟨wA, a1, R1, o1, z1⟩ := x89 (g := g00 e) c1 rfl (fun _ => 0) (fun _ => (0, 0, 0, 0, 0, 0, 0, fun _ => false, fun _ => 0))
  have z1 : wA.2 = (w0.2.1 + 5, w0.2.2.1 + 9 + 151, w0.2.2.2) := z1
  have sA : stp 1 40 (g00 e) (gX (g00 e) w0.2.1) 100 200 w0 wA := by
    refine ⟨fun a ha _ => (o1 a ha).trans (e1.1 a ha), fun a ha => gX_o (Or.inl ha), fun a ha => ?_, fun a ha => ?_, ?_⟩
    · by_cases q : a < w0.2.1 + 5
      · refine Or.inr ?_
        unfold gX
        rcases (show a = w0.2.1 ∨ a = w0.2.1 + 1 ∨ a = w0.2.1 + 2 ∨ a = w0.2.1 + 3 ∨ a = w0.2.1 + 4 by omega) with rfl | rfl | rfl | rfl | rfl
        · rw [if_pos rfl]; decide
        · rw [if_neg (by omega), if_pos rfl]; decide
        · rw [if_neg (by omega), if_neg (by omega), if_pos rfl]; decide
        · rw [if_neg (by omega), if_neg (by omega), if_neg (by omega), if_pos rfl]; decide
        · rw [if_neg (by omega), if_neg (by omega), if_neg (by omega), if_neg (by omega), if_pos rfl]; decide
      · rw [gX_o (Or.inr (by omega))]
        exact Or.inl (hJ a ha)
    · rw [z1] at ha
      have ha : w0.2.1 + 5 ≤ a := ha
      rw [gX_o (Or.inr ha)]
      exact hJ a (by omega)
    · rw [z1]
      exact ⟨Nat.le_add_right _ _, by show w0.2.1 + 5 ≤ w0.2.1 + 100; omega, by show w0.2.2.1 ≤ w0.2.2.1 + 9 + 151; omega, by show w0.2.2.1 + 9 + 151 ≤ w0.2.2.1 + 200; omega, rfl⟩
  have RA : RC wA (gX (g00 e) w0.2.1) w0.2.1 S0 := ⟨_, _, _, _, _, _, _, R1⟩
  have hSA := hS.stp (by decide) sA
  have hJA := stp_J sA
  have lA : wA.2.1 = w0.2.1 + 5 := by rw [z1]
  have kA : wA.2.2.1 = w0.2.2.1 + 160 := by rw [z1]
  have eA : wA.2.2.2 1 = some e := by rw [z1]; exact w4
  have cA : cQ wA e 13 0 (fun _ => none) := cQ_of qe' (sA.1 e (by omega) (Or.inr (by rw [ge]; decide)))
  have gA : gX (g00 e) w0.2.1 e = 721 := (sA.2.1 e (by omega)).trans ge
  have bA : cI wA b 8 L xs := cI_of qb (sA.1 b (by omega) (Or.inl (by rw [gb]; decide)))
  have gbA : gX (g00 e) w0.2.1 b = 0 := (sA.2.1 b (by omega)).trans gb
  have a1' : am_x 89 [.ref w0.2.1] (am_nw w0 (.inr (8, am_df 8 9)) 9) = some (.inl none, wA) := a1
  have lx : w0.2.1 < wA.2.1 := by omega
  generalize gX (g00 e) w0.2.1 = gAA at RA hSA hJA gA gbA
  -- the reference's object
  obtain ⟨wB, a2, R2, sB'⟩ := x172 wA hJA eA cA gA (fun _ => 0) (fun _ => (0, 0, 0, 0, 0, 0, 0, fun _ => false, fun _ => 0))
  have RB := rc_stp ok0 RA hJA sB'
  have NB : RN wB (gN gAA wA.2.1) wA.2.1 S0 0 := ⟨_, _, _, _, _, _, _, R2⟩
  have hSB := hSA.stp (by decide) sB'
  have hJB := stp_J sB'
  obtain ⟨p1, p2, p3, p4, p5, p6, p7, p8, p9⟩ := sB'
  have bB : cI wB b 8 L xs := cI_of bA (p1 b (by omega) (Or.inl (by omega)))
  have gbB : gN gAA wA.2.1 b = 0 := (p2 b (by omega)).trans gbA
  generalize gN gAA wA.2.1 = gB at RB NB hSB hJB gbB
  -- the law's own object
  have e3 : ext wB (am_nw wB (.inr (9, am_df 9 3)) 3) 1 3 := ext_nw
  have c3 : cO (am_nw wB (.inr (9, am_df 9 3)) 3) wB.2.1 9 [.long 0, .double 0, .null] := nw_s
  have gu : gB wB.2.1 = 0 := hJB _ (Nat.le_refl _)
  have sC : stp 900 901 gB (up gB wB.2.1 900) 1 3 wB (am_nw wB (.inr (9, am_df 9 3)) 3) := by
    refine ⟨fun a ha _ => e3.1 a ha, fun a ha => up_n (by omega), fun a ha => ?_, fun a ha => ?_, Nat.le_succ _, Nat.le_refl _, Nat.le_add_right _ _, Nat.le_refl _, rfl⟩
    · by_cases q : a = wB.2.1
      · subst q
        rw [up_s]
        exact Or.inr ⟨by decide, by decide⟩
      · rw [up_n q]
        exact Or.inl (hJB a ha)
    · have ha : wB.2.1 + 1 ≤ a := ha
      rw [up_n (by omega)]
      exact hJB a (by omega)
  have RD : RC (am_nw wB (.inr (9, am_df 9 3)) 3) gB w0.2.1 S0 := by
    obtain ⟨fl, ka, ha, wr, C, B, wad, R⟩ := RB
    exact ⟨fl, ka, ha, wr, C, B, wad, rc_ext R (by decide) hJB e3⟩
  have RD := rc_g RD (up_g gu (t := 900))
  have ND : RN (am_nw wB (.inr (9, am_df 9 3)) 3) (up gB wB.2.1 900) wA.2.1 S0 0 := by
    obtain ⟨kq, hq, ca, ba, wl, ed, wad, R⟩ := NB
    exact ⟨kq, hq, ca, ba, wl, ed, wad, rm_g (rm_ext R (by decide) hJB e3) (up_g gu)⟩
  have hSD := hSB.stp (by decide) sC
  have hJD := stp_J sC
  refine ⟨am_nw wB (.inr (9, am_df 9 3)) 3, up gB wB.2.1 900, w0.2.1, wA.2.1, wB.2.1, ?_, ok0, RD, ⟨0, ND⟩, hJD, hSD, ⟨cI_of bB (e3.1 b (by omega)), by show b < wB.2.1 + 1; omega, (up_n (by omega)).trans gbB, hL⟩, ⟨0, 0, .null, c3⟩, up_s, by show wB.2.1 + 1 ≤ s.heap.size + 100; omega, by show wB.2.2.1 + 3 ≤ 500; omega⟩
  simp only [bx269, bk269_0, bk269_3, a1', bk269_7, bk269_11, a2, bk269_15, bk269_19, x35, bk269_23, Option.bind_some, bct_v, bct_t, otl_s, otl_n, List.cons_append, List.nil_append, List.getElem?_cons_zero, List.getElem?_cons_succ, ↓reduceIte]
theorem am_law_run (hL : L ≤ 2560) (h : am_Giv o e d K V s.heap.size s) (hX : va_T .int b L (fun j => .int (xs j)) (am_A s.heap.size) s s.heap) (hbl : b < s.heap.size) (x3 x4 : Option Nat) :
    ∃ r, am_run 269 0 (am_ent 269 [.ref b]) [] (am_w1 (am_gL o e d K V) b L xs, s.heap.size, 0, am_s1g o e d K x3 x4) = some r ∧ r.1 = .inl (some (.int 1)) ∧ r.2.2.1 ≤ s.heap.size + 599124 ∧ r.2.2.2.1 ≤ 7291346 := by
  obtain ⟨w, g, x, m, u, a, hI⟩ := am_made h hL hX hbl x3 x4
  obtain ⟨w', t, l1, l2⟩ := law_go 512 0 S0 w g _ _ (by omega) (by decide) hI
  exact ⟨_, a.trans t, rfl, by show w'.2.1 ≤ _; omega, by show w'.2.2.1 ≤ _; omega⟩
end AMLW
