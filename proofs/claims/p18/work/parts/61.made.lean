/-! WHAT THE CLASS MAKES: walkers, the object itself. Mine. -/
theorem df7 : am_df 7 2 = [.null, .null] := rfl
theorem df6 : am_df 6 9 = [.int 0, .null, .null, .int 0, .int 0, .int 0, .int 0, .int 0, .int 0] := rfl
theorem df4 : am_df 4 1 = [.null] := rfl
theorem df5 : am_df 5 4 = [.null, .null, .long 0, .long 0] := rfl
theorem df8 : am_df 8 9 = [.null, .null, .int 0, .int 0, .int 0, .int 0, .int 0, .int 0, .int 0] := rfl
theorem in1 : am_in 1 = .inr (.inl (fun _ => 0)) := rfl
theorem in0 : am_in 0 = .inl (fun _ => 0) := rfl
theorem in2 : am_in 2 = .inl (fun _ => 0) := rfl
theorem in4 : am_in 4 = .inr (.inr (.inr (.inr (fun _ => none)))) := rfl
def w80 (w : am_Wd) (m : Nat) (xf : Nat → Int64) : am_Wd := am_pt (am_nw (am_pt (am_nw w (.inl (1, 4, am_in 1)) 4) m (.inr (7, [.ref w.2.1, .null]))) (.inl (1, 4, .inr (.inl xf))) 4) m (.inr (7, [.ref w.2.1, .ref (w.2.1 + 1)]))
theorem w80_m {w : am_Wd} {m : Nat} {xf : Nat → Int64} : (w80 w m xf).1 m = some (.inr (7, [.ref w.2.1, .ref (w.2.1 + 1)])) := pt_s
theorem w80_f {w : am_Wd} {m : Nat} {xf : Nat → Int64} (h : m < w.2.1) : (w80 w m xf).1 w.2.1 = some (.inl (1, 4, am_in 1)) :=
  (pt_n (by omega)).trans ((nw_n (by show w.2.1 ≠ w.2.1 + 1; omega)).trans ((pt_n (by omega)).trans nw_s))
theorem w80_w {w : am_Wd} {m : Nat} {xf : Nat → Int64} (h : m < w.2.1) : (w80 w m xf).1 (w.2.1 + 1) = some (.inl (1, 4, .inr (.inl xf))) :=
  (pt_n (by omega)).trans nw_s
theorem w80_o {w : am_Wd} {m b : Nat} {xf : Nat → Int64} (h : b < w.2.1) (h2 : b ≠ m) : (w80 w m xf).1 b = w.1 b :=
  (pt_n h2).trans ((nw_n (by show b ≠ w.2.1 + 1; omega)).trans ((pt_n h2).trans (nw_n (by omega))))
theorem w80_2 {w : am_Wd} {m : Nat} {xf : Nat → Int64} : (w80 w m xf).2 = (w.2.1 + 2, w.2.2.1 + 8, w.2.2.2) := rfl
theorem x80 {w : am_Wd} {o m : Nat} {xf : Nat → Int64} (hs : stO w o xf) (hol : o < w.2.1) (hm : cO w m 7 [.null, .null]) (hml : m < w.2.1) : am_x 80 [.ref m] w = some (.inl none, w80 w m xf) := by
  have hom : o ≠ m := fun q => by
    have h1 := hs.2.1
    rw [q, show w.1 m = _ from hm] at h1
    cases h1
  have a1 : cO (am_nw w (.inl (1, 4, am_in 1)) 4) m 7 [.null, .null] := cO_of hm (nw_n (by omega))
  have p1 : am_pf (am_nw w (.inl (1, 4, am_in 1)) 4) m 7 0 (.ref w.2.1) = some (am_pt (am_nw w (.inl (1, 4, am_in 1)) 4) m (.inr (7, [.ref w.2.1, .null]))) := pfc a1 (by show 0 < 2; decide) (by decide)
  have s1 : stO (am_pt (am_nw w (.inl (1, 4, am_in 1)) 4) m (.inr (7, [.ref w.2.1, .null]))) o xf := ⟨hs.1, ((pt_n hom).trans (nw_n (by omega))).trans hs.2.1, hs.2.2⟩
  have a12 := x12 s1
  have a2 : cO (am_nw (am_pt (am_nw w (.inl (1, 4, am_in 1)) 4) m (.inr (7, [.ref w.2.1, .null]))) (.inl (1, 4, .inr (.inl xf))) 4) m 7 [.ref w.2.1, .null] := cO_of pt_s (nw_n (by show m ≠ w.2.1 + 1; omega))
  have p2 : am_pf (am_nw (am_pt (am_nw w (.inl (1, 4, am_in 1)) 4) m (.inr (7, [.ref w.2.1, .null]))) (.inl (1, 4, .inr (.inl xf))) 4) m 7 1 (.ref (w.2.1 + 1)) = some (w80 w m xf) := pfc a2 (by show 1 < 2; decide) (by decide)
  have n1 : (am_pt (am_nw w (.inl (1, 4, am_in 1)) 4) m (.inr (7, [.ref w.2.1, .null]))).2.1 = w.2.1 + 1 := rfl
  rw [n1] at a12
  simp only [bk80_0, bk80_8, bk80_11, bk80_15, bk80_18, bx80, nac (w := w) (t := 1) (show 4 ≤ 4096 by decide), p1, a12, p2, Option.bind_some, bct_v, bct_t, otl_s, otl_n, List.cons_append, List.nil_append, List.getElem?_cons_zero, List.getElem?_cons_succ, ↓reduceIte]
def w0i (w : am_Wd) (be : Nat) : am_Wd := am_pt (am_nw w (.inl (1, 4, am_in 1)) 4) be (.inr (4, [.ref w.2.1]))
theorem x0 {w : am_Wd} {be : Nat} (hb : cO w be 4 [.null]) (hl : be < w.2.1) : am_x 0 [.ref be] w = some (.inl none, w0i w be) := by
  have a1 : cO (am_nw w (.inl (1, 4, am_in 1)) 4) be 4 [.null] := cO_of hb (nw_n (by omega))
  have p1 : am_pf (am_nw w (.inl (1, 4, am_in 1)) 4) be 4 0 (.ref w.2.1) = some (w0i w be) := pfc a1 (by show 0 < 1; decide) (by decide)
  simp only [bk0_0, bk0_8, bk0_11, bx0, nac (w := w) (t := 1) (show 4 ≤ 4096 by decide), p1, Option.bind_some, bct_v, bct_t, otl_s, otl_n, List.cons_append, List.nil_append, List.getElem?_cons_zero, List.getElem?_cons_succ, ↓reduceIte]
def may0 (p : Nat) (b : Bool) : Nat → Bool := if b = true then (fun q => decide (q = p)) else fun _ => true
theorem x127 {w : am_Wd} {g : Nat → Nat} {i o a c f h : Nat} {xf : Nat → Int64} (hs : stO w o xf) (ho : o < a) (ha : cO w a 6 [.int 0, .null, .null, .int 0, .int 0, .int 0, .int 0, .int 0, .int 0]) (hw : w.2.1 = a + 1) (hc : c < 36) (hf : f < 4) (b : Bool)
    (g1 : g a = 10 + 10 * i) (g2 : g (a + 1) = 11 + 10 * i) (g3 : g (a + 4) = 12 + 10 * i) (g4 : g (a + 2) = 13 + 10 * i) (g5 : g (a + 3) = 14 + 10 * i) (g6 : g (a + 5) = 15 + 10 * i) :
    ∃ w', am_x 127 [.ref a, .int (nI c), .int (nI f), .int (nI h), .int (b2i b)] w = some (.inl none, w') ∧ Wkv w' g i a (c, c * 4 + f, h, nI 0, nI 0, nI 0, nI 0, may0 (c * 4 + f) b, fun _ => 0) ∧ (∀ z, z < a → w'.1 z = w.1 z) ∧ w'.2 = (a + 6, w.2.2.1 + 15, w.2.2.2) := by
  -- the map
  have e0 : bx127 (w := w) (a0 := a) (a1 := nI c) (a2 := nI f) (a3 := nI h) (a4 := b2i b) = bx127 := rfl
  let wA := am_nw w (.inr (7, am_df 7 2)) 2
  have hA : wA = am_nw w (.inr (7, am_df 7 2)) 2 := rfl
  have sA : stO wA o xf := ⟨hs.1, (nw_n (by omega)).trans hs.2.1, hs.2.2⟩
  have mA : cO wA (a + 1) 7 [.null, .null] := by rw [← hw]; exact nw_s
  have nA : wA.2.1 = a + 2 := by show w.2.1 + 1 = a + 2; omega
  have aA : cO wA a 6 [.int 0, .null, .null, .int 0, .int 0, .int 0, .int 0, .int 0, .int 0] := cO_of ha (nw_n (by omega))
  have a80 := x80 sA (by omega) mA (by omega)
  clear_value wA
  generalize hE : w80 wA (a + 1) xf = wE at a80
  have nE : wE.2 = (a + 4, w.2.2.1 + 10, w.2.2.2) := by
    rw [← hE, w80_2, nA, hA]
    show (a + 2 + 2, w.2.2.1 + 2 + 8, w.2.2.2) = _
    rfl
  have mE : wE.1 (a + 1) = some (.inr (7, [.ref (a + 2), .ref (a + 3)])) := by
    rw [← hE, w80_m, nA]
  have fE : wE.1 (a + 2) = some (.inl (1, 4, am_in 1)) := by
    have := w80_f (w := wA) (m := a + 1) (xf := xf) (by omega)
    rw [nA] at this
    rw [← hE]; exact this
  have uE : wE.1 (a + 3) = some (.inl (1, 4, .inr (.inl xf))) := by
    have := w80_w (w := wA) (m := a + 1) (xf := xf) (by omega)
    rw [nA] at this
    rw [← hE]; exact this
  have oE : ∀ z, z ≤ a → wE.1 z = w.1 z := fun z hz => by
    rw [← hE, w80_o (by omega) (by omega), hA]
    exact nw_n (by omega)
  have aE : cO wE a 6 [.int 0, .null, .null, .int 0, .int 0, .int 0, .int 0, .int 0, .int 0] := cO_of ha (oE a (by omega))
  have pF : am_pf wE a 6 1 (.ref (a + 1)) = some (am_pt wE a (.inr (6, [.int 0, .ref (a + 1), .null, .int 0, .int 0, .int 0, .int 0, .int 0, .int 0]))) := pfc aE (by show 1 < 9; decide) (by decide)
  generalize hF : am_pt wE a (.inr (6, [.int 0, .ref (a + 1), .null, .int 0, .int 0, .int 0, .int 0, .int 0, .int 0])) = wF at pF
  have aF : wF.1 a = some (.inr (6, [.int 0, .ref (a + 1), .null, .int 0, .int 0, .int 0, .int 0, .int 0, .int 0])) := by rw [← hF]; exact pt_s
  have oF : ∀ z, z ≠ a → wF.1 z = wE.1 z := fun z hz => by rw [← hF]; exact pt_n hz
  have nF : wF.2 = (a + 4, w.2.2.1 + 10, w.2.2.2) := by rw [← hF]; exact nE
  have nF1 : wF.2.1 = a + 4 := by rw [nF]
  let wG := am_nw wF (.inr (4, am_df 4 1)) 1
  have hG : wG = am_nw wF (.inr (4, am_df 4 1)) 1 := rfl
  have bG : cO wG (a + 4) 4 [.null] := by rw [← nF1]; exact nw_s
  have nG : wG.2 = (a + 5, w.2.2.1 + 11, w.2.2.2) := by
    show (wF.2.1 + 1, wF.2.2.1 + 1, wF.2.2.2) = _
    rw [nF]
  have oG : ∀ z, z ≠ a + 4 → wG.1 z = wF.1 z := fun z hz => nw_n (by omega)
  clear_value wG
  have nG1 : wG.2.1 = a + 5 := by rw [nG]
  have a0 := x0 bG (by omega)
  have hI : ∃ wI, w0i wG (a + 4) = wI ∧ wI.1 (a + 4) = some (.inr (4, [.ref (a + 5)])) ∧ wI.1 (a + 5) = some (.inl (1, 4, am_in 1)) ∧ (∀ z, z ≠ a + 4 → z ≠ a + 5 → wI.1 z = wG.1 z) ∧ wI.2 = (a + 6, w.2.2.1 + 15, w.2.2.2) := by
    refine ⟨_, rfl, ?_, ?_, fun z h1 h2 => ?_, ?_⟩
    · unfold w0i; rw [nG1]; exact pt_s
    · unfold w0i
      rw [show a + 5 = wG.2.1 from nG1.symm]
      exact (pt_n (by omega)).trans nw_s
    · unfold w0i
      exact (pt_n h1).trans (nw_n (by omega))
    · show (wG.2.1 + 1, wG.2.2.1 + 4, wG.2.2.2) = _
      rw [nG]
  obtain ⟨wI, eI, bI, cI', oI, nI'⟩ := hI
  rw [eI] at a0
  have aI : cO wI a 6 [.int 0, .ref (a + 1), .null, .int 0, .int 0, .int 0, .int 0, .int 0, .int 0] := (oI a (by omega) (by omega)).trans ((oG a (by omega)).trans aF)
  have q1 : am_pf wI a 6 2 (.ref (a + 4)) = some (am_pt wI a (.inr (6, [.int 0, .ref (a + 1), .ref (a + 4), .int 0, .int 0, .int 0, .int 0, .int 0, .int 0]))) := pfc aI (by show 2 < 9; decide) (by decide)
  have q2 : am_pf (am_pt wI a (.inr (6, [.int 0, .ref (a + 1), .ref (a + 4), .int 0, .int 0, .int 0, .int 0, .int 0, .int 0]))) a 6 0 (.int (nI c)) = some (am_pt wI a (.inr (6, [.int (nI c), .ref (a + 1), .ref (a + 4), .int 0, .int 0, .int 0, .int 0, .int 0, .int 0]))) := by
    rw [pfc (fs := [.int 0, .ref (a + 1), .ref (a + 4), .int 0, .int 0, .int 0, .int 0, .int 0, .int 0]) pt_s (by show 0 < 9; decide) (by decide), pt_pt]; rfl
  have q3 : am_pf (am_pt wI a (.inr (6, [.int (nI c), .ref (a + 1), .ref (a + 4), .int 0, .int 0, .int 0, .int 0, .int 0, .int 0]))) a 6 3 (.int (nI (c * 4 + f))) = some (am_pt wI a (.inr (6, [.int (nI c), .ref (a + 1), .ref (a + 4), .int (nI (c * 4 + f)), .int 0, .int 0, .int 0, .int 0, .int 0]))) := by
    rw [pfc (fs := [.int (nI c), .ref (a + 1), .ref (a + 4), .int 0, .int 0, .int 0, .int 0, .int 0, .int 0]) pt_s (by show 3 < 9; decide) (by decide), pt_pt]; rfl
  have q4 : am_pf (am_pt wI a (.inr (6, [.int (nI c), .ref (a + 1), .ref (a + 4), .int (nI (c * 4 + f)), .int 0, .int 0, .int 0, .int 0, .int 0]))) a 6 4 (.int (nI h)) = some (am_pt wI a (.inr (6, oW c (c * 4 + f) h (a + 1) (a + 4) (nI 0) (nI 0) (nI 0) (nI 0)))) := by
    rw [pfc (fs := [.int (nI c), .ref (a + 1), .ref (a + 4), .int (nI (c * 4 + f)), .int 0, .int 0, .int 0, .int 0, .int 0]) pt_s (by show 4 < 9; decide) (by decide), pt_pt]; rfl
  generalize hK : am_pt wI a (.inr (6, oW c (c * 4 + f) h (a + 1) (a + 4) (nI 0) (nI 0) (nI 0) (nI 0))) = wK at q4
  have aK : cO wK a 6 (oW c (c * 4 + f) h (a + 1) (a + 4) (nI 0) (nI 0) (nI 0) (nI 0)) := by rw [← hK]; exact pt_s
  have oK : ∀ z, z ≠ a → wK.1 z = wI.1 z := fun z hz => by rw [← hK]; exact pt_n hz
  have nK : wK.2 = (a + 6, w.2.2.1 + 15, w.2.2.2) := by rw [← hK]; exact nI'
  obtain ⟨W, W1, W2⟩ := arL_of xf
  have mK : Mv wK (a + 1) (a + 2) (a + 3) (fun _ => 0) W (fun _ => 0) := by
    have z1 : ∀ z, z ≠ a → z ≠ a + 4 → z ≠ a + 5 → wK.1 z = wE.1 z := fun z k1 k2 k3 => (oK z k1).trans ((oI z k2 k3).trans ((oG z k2).trans (oF z k1)))
    refine ⟨(z1 (a + 1) (by omega) (by omega) (by omega)).trans mE, (z1 (a + 2) (by omega) (by omega) (by omega)).trans fE, ((z1 (a + 3) (by omega) (by omega) (by omega)).trans uE).trans (by rw [W2]), fun s hs' => ⟨kn0 s hs', ?_⟩⟩
    have e1 : W s = oc s := lN_inj (W1 s) (bm_lt (oc_bm s hs')) (by have := hs.2.2 s hs'; rw [W2] at this; exact this)
    rw [e1]
    exact oc_bm s hs'
  have bK : Bv wK (a + 4) (a + 5) (fun _ => 0) := ⟨(oK (a + 4) (by omega)).trans bI, (oK (a + 5) (by omega)).trans cI'⟩
  have ne : a + 4 ≠ a + 5 := by omega
  have fin : ∀ M, bmy M (may0 (c * 4 + f) b) → Wkv (am_pt wK (a + 5) (arL M)) g i a (c, c * 4 + f, h, nI 0, nI 0, nI 0, nI 0, may0 (c * 4 + f) b, fun _ => 0) ∧ (∀ z, z < a → (am_pt wK (a + 5) (arL M)).1 z = w.1 z) ∧ (am_pt wK (a + 5) (arL M)).2 = (a + 6, w.2.2.1 + 15, w.2.2.2) := by
    intro M hM
    refine ⟨(Wkv_bel (N := fun _ => 0) aK mK bK hM g1 g2 g3 g4 g5 g6).1, fun z hz => ?_, nK⟩
    exact (pt_n (by omega)).trans ((oK z (by omega)).trans ((oI z (by omega) (by omega)).trans ((oG z (by omega)).trans ((oF z (by omega)).trans (oE z (by omega))))))
  have hwA : am_nw w (.inr (7, am_df 7 2)) 2 = wA := hA.symm
  have hwG : am_nw wF (.inr (4, am_df 4 1)) 1 = wG := hG.symm
  have run : am_x 127 [.ref a, .int (nI c), .int (nI f), .int (nI h), .int (b2i b)] w = am_run 127 45 [some (.ref a), none, none, none, some (.int (b2i b))] [] wK := by
    simp only [bx127, bk127_0, hwA, hw, bk127_8, a80, bk127_12, pF, bk127_15, hwG, nF1, bk127_19, a0, bk127_23, q1, bk127_26, q2, bk127_31, nI_mulS, nI_add, q3, bk127_40, q4, Option.bind_some, bct_v, bct_t, otl_s, otl_n, List.cons_append, List.nil_append, List.getElem?_cons_zero, List.getElem?_cons_succ, ↓reduceIte]
  cases b with
  | true =>
    obtain ⟨M, m1, m2⟩ := x2 bK (p := c * 4 + f) (by omega) ne
    obtain ⟨k1, k2, k3⟩ := fin M m1
    refine ⟨_, ?_, k1, k2, k3⟩
    rw [run]
    simp only [bk127_45, b2i_0, reduceCtorEq, bk127_50, gfc aK, oW_0, oW_1, oW_2, oW_3, oW_4, oW_5, oW_6, oW_7, oW_8, bk127_54, bk127_58, kfc bK.1, m2, bk127_61, bk127_71, Option.bind_some, bct_v, bct_t, otl_s, otl_n, List.cons_append, List.nil_append, List.getElem?_cons_zero, List.getElem?_cons_succ, ↓reduceIte]
  | false =>
    obtain ⟨M, m1, m2⟩ := x1 bK ne
    obtain ⟨k1, k2, k3⟩ := fin M m1
    refine ⟨_, ?_, k1, k2, k3⟩
    rw [run]
    simp only [bk127_45, b2i_0, bk127_64, gfc aK, oW_0, oW_1, oW_2, oW_3, oW_4, oW_5, oW_6, oW_7, oW_8, bk127_68, kfc bK.1, m2, bk127_71, Option.bind_some, bct_v, bct_t, otl_s, otl_n, List.cons_append, List.nil_append, List.getElem?_cons_zero, List.getElem?_cons_succ, ↓reduceIte]
