/-! A NEW WALKER IN ITS PLACE; A NEW OBJECT. Mine. -/
theorem Wkv.g {w : am_Wd} {g g' : Nat → Nat} {i a : Nat} {y : sW} (h : Wkv w g i a y) (hg : ∀ b, g b ≠ 0 → g' b = g b) : Wkv w g' i a y := by
  obtain ⟨ho, po, ch, lo, ac, bu, sl, may, mp⟩ := y
  obtain ⟨m, be, fa, wa, ca, F, W, N, h1, h2, h3, h4, g1, g2, g3, g4, g5, g6⟩ := h
  have e : ∀ b k, g b = k → k ≠ 0 → g' b = k := fun b k hk h0 => (hg b (by omega)).trans hk
  exact ⟨m, be, fa, wa, ca, F, W, N, h1, h2, h3, h4, e _ _ g1 (by omega), e _ _ g2 (by omega), e _ _ g3 (by omega), e _ _ g4 (by omega), e _ _ g5 (by omega), e _ _ g6 (by omega)⟩
def gJ (w : am_Wd) (g : Nat → Nat) : Prop := ∀ b, w.2.1 ≤ b → g b = 0
/-- tags of a new walker's things -/
def gW (g : Nat → Nat) (a n : Nat) : Nat → Nat := fun b => if b = a then 10 + 10 * n else if b = a + 1 then 11 + 10 * n else if b = a + 2 then 13 + 10 * n else if b = a + 3 then 14 + 10 * n else if b = a + 4 then 12 + 10 * n else if b = a + 5 then 15 + 10 * n else g b
theorem gW_o {g : Nat → Nat} {a n b : Nat} (h : b < a ∨ a + 6 ≤ b) : gW g a n b = g b := by
  unfold gW
  rw [if_neg (by omega), if_neg (by omega), if_neg (by omega), if_neg (by omega), if_neg (by omega), if_neg (by omega)]
theorem gW_at (g : Nat → Nat) (a n : Nat) : gW g a n a = 10 + 10 * n ∧ gW g a n (a + 1) = 11 + 10 * n ∧ gW g a n (a + 4) = 12 + 10 * n ∧ gW g a n (a + 2) = 13 + 10 * n ∧ gW g a n (a + 3) = 14 + 10 * n ∧ gW g a n (a + 5) = 15 + 10 * n := by
  unfold gW
  refine ⟨if_pos rfl, ?_, ?_, ?_, ?_, ?_⟩
  · rw [if_neg (by omega), if_pos rfl]
  · rw [if_neg (by omega), if_neg (by omega), if_neg (by omega), if_neg (by omega), if_pos rfl]
  · rw [if_neg (by omega), if_neg (by omega), if_pos rfl]
  · rw [if_neg (by omega), if_neg (by omega), if_neg (by omega), if_pos rfl]
  · rw [if_neg (by omega), if_neg (by omega), if_neg (by omega), if_neg (by omega), if_neg (by omega), if_pos rfl]
theorem wks_up {n a : Nat} {wad : Nat → Nat} : va_up (wks n wad) n (some a) = wks (n + 1) (up wad n a) := by
  funext j
  unfold va_up wks up
  by_cases h : j = n
  · rw [if_pos h, if_pos (by omega), if_pos h]
  · rw [if_neg h]
    by_cases h2 : j < n
    · rw [if_pos h2, if_pos (by omega), if_neg h]
    · rw [if_neg h2, if_neg (by omega)]
section MAD
variable {w : am_Wd} {g : Nat → Nat} {x fl ka ha wr C B : Nat} {wad : Nat → Nat} {kd hr : Nat → Nat} {cp br : Nat → Bool} {n : Nat} {ws : Nat → sW} {mi nd : Nat} {dr me di re : Int32}
theorem x167 (R : RCx w g x fl ka ha wr C B wad kd hr cp br n ws mi nd dr me di re) (hn : n < 3) (hJ : gJ w g) {o : Nat} {xf : Nat → Int64} (hs : stO w o xf) (ho : o < w.2.1) {c f h : Nat} (hc : c ≤ 35) (hf : f ≤ 3) (h1 : 1 ≤ h) (h5 : h ≤ 500) (b : Bool) :
    ∃ w', am_x 167 [.ref x, .int (nI c), .int (nI f), .int (nI h), .int (b2i b)] w = some (.inl (some (.int (nI n))), w') ∧ RCx w' (gW g w.2.1 n) x fl ka ha wr C B (up wad n w.2.1) kd hr cp br (n + 1) (up ws n (c, c * 4 + f, h, nI 0, nI 0, nI 0, nI 0, may0 (c * 4 + f) b, fun _ => 0)) mi nd dr me di re ∧ (∀ z, z < w.2.1 → g z < 1 ∨ 40 ≤ g z → w'.1 z = w.1 z) ∧ w'.2 = (w.2.1 + 6, w.2.2.1 + 24, w.2.2.2) := by
  obtain ⟨r1, r2, r3, r4, r5, r6, t1, t2, t3, t4, t5⟩ := R
  have lt : ∀ z k, g z = k → k ≠ 0 → z < w.2.1 := fun z k hk h0 => by
    rcases Nat.lt_or_ge z w.2.1 with q | q
    · exact q
    · exact absurd (hJ z q) (by omega)
  obtain ⟨k1, k2, k3, k4, k5, k6⟩ := gW_at g w.2.1 n
  let w1 := am_nw w (.inr (6, am_df 6 9)) 9
  have h1w : am_nw w (.inr (6, am_df 6 9)) 9 = w1 := rfl
  have a1 : cO w1 w.2.1 6 [.int 0, .null, .null, .int 0, .int 0, .int 0, .int 0, .int 0, .int 0] := nw_s
  have s1 : stO w1 o xf := ⟨hs.1, (nw_n (by omega)).trans hs.2.1, hs.2.2⟩
  have n1 : w1.2.1 = w.2.1 + 1 := rfl
  have n1' : w1.2.2.1 = w.2.2.1 + 9 := rfl
  have n1s : w1.2.2.2 = w.2.2.2 := rfl
  have o1 : ∀ z, z < w.2.1 → w1.1 z = w.1 z := fun z hz => nw_n (by omega)
  clear_value w1
  obtain ⟨w2, e2, W2, f2, n2⟩ := x127 (g := gW g w.2.1 n) (i := n) (h := h) s1 ho a1 n1 (c := c) (f := f) (by omega) (by omega) b k1 k2 k3 k4 k5 k6
  have f2' : ∀ z, z < w.2.1 → w2.1 z = w.1 z := fun z hz => (f2 z hz).trans (o1 z hz)
  have lx := lt x 1 t1 (by decide)
  have lfl := lt fl 2 t2 (by decide)
  have lka := lt ka 3 t3 (by decide)
  have lha := lt ha 4 t4 (by decide)
  have lwr := lt wr 5 t5 (by decide)
  have q5 : cQ w2 wr 4 3 (wks n wad) := cQ_of r5 (f2' wr lwr)
  have b2 : ∃ fs, cO w2 w.2.1 6 fs := by
    obtain ⟨m, be, fa, wa, ca, F, W, N, z1, -⟩ := W2
    exact ⟨_, z1⟩
  obtain ⟨fs, b2⟩ := b2
  have pq : am_wq 4 6 w2 wr (nI n) w.2.1 = some (am_pt w2 wr (.inl (4, 3, .inr (.inr (.inr (.inr (wks (n + 1) (up wad n w.2.1)))))))) := by
    rw [wqc q5 (by decide) b2 hn (by decide), wks_up]
  generalize h3 : am_pt w2 wr (.inl (4, 3, .inr (.inr (.inr (.inr (wks (n + 1) (up wad n w.2.1))))))) = w3 at pq
  have o3 : ∀ z, z ≠ wr → w3.1 z = w2.1 z := fun z hz => by rw [← h3]; exact pt_n hz
  have x3 : cO w3 x 8 (oX fl wr n mi nd dr me di re) := (o3 x (g_ne t1 t5 (by decide))).trans ((f2' x lx).trans r1)
  have px : am_pf w3 x 8 2 (.int (nI (n + 1))) = some (am_pt w3 x (.inr (8, oX fl wr (n + 1) mi nd dr me di re))) := pfc x3 (by show 2 < 9; decide) (by decide)
  have o4 : ∀ z, z ≠ x → (am_pt w3 x (.inr (8, oX fl wr (n + 1) mi nd dr me di re))).1 z = w3.1 z := fun z hz => pt_n hz
  have og : ∀ z, z < w.2.1 → g z ≠ 1 → g z ≠ 5 → (am_pt w3 x (.inr (8, oX fl wr (n + 1) mi nd dr me di re))).1 z = w.1 z := fun z hz u1 u2 => (o4 z (fun q => u1 (by rw [q, t1]))).trans ((o3 z (fun q => u2 (by rw [q, t5]))).trans (f2' z hz))
  have gk : ∀ z, g z ≠ 0 → gW g w.2.1 n z = g z := fun z hz => gW_o (Or.inl (lt z (g z) rfl hz))
  refine ⟨_, ?_, ⟨pt_s, r2.of (og fl lfl (by omega) (by omega)) (og ka lka (by omega) (by omega)) (og ha lha (by omega) (by omega)), r3, r4, ?_, fun i hi => ?_, (gk x (by omega)).trans t1, (gk fl (by omega)).trans t2, (gk ka (by omega)).trans t3, (gk ha (by omega)).trans t4, (gk wr (by omega)).trans t5⟩, fun z hz hg => og z hz (by omega) (by omega), ?_⟩
  · have e6 : am_len w wr = some 3 := lenQ r5 (by decide)
    simp only [bx167, bk167_0, x29 hc, bk167_4, x92 (show 3 < 2147483648 by decide) (Nat.zero_le f) hf, bk167_10, x92 (show 500 < 2147483648 by decide) h1 h5, bk167_18, gfc r1, oX_0, oX_1, oX_2, oX_3, oX_4, oX_5, oX_6, oX_7, oX_8, bk167_22, nI_ltS (show n < 2147483648 by omega) (show 0 < 2147483648 by decide), Nat.not_lt_zero, bk167_29, bk167_35, e6, bk167_36, nI_ltS (show n < 2147483648 by omega) (show 3 < 2147483648 by decide), hn, bk167_49, bk167_53, h1w, bk167_58, e2, bk167_67, pq, bk167_68, nI_add, px, bk167_76, Option.bind_some, bct_v, bct_t, otl_s, otl_n, List.cons_append, List.nil_append, List.getElem?_cons_zero, List.getElem?_cons_succ, ↓reduceIte]
  · have e : (am_pt w3 x (.inr (8, oX fl wr (n + 1) mi nd dr me di re))).1 wr = w3.1 wr := o4 wr (g_ne t5 t1 (by decide))
    refine e.trans ?_
    rw [← h3]
    exact pt_s
  · by_cases e : i = n
    · subst e
      rw [up_s, up_s]
      refine W2.of fun z z1 z2 => ?_
      have zx : z ≠ x := fun q => by rw [q, gk x (by omega), t1] at z1; omega
      have zr : z ≠ wr := fun q => by rw [q, gk wr (by omega), t5] at z1; omega
      exact (o4 z zx).trans (o3 z zr)
    · rw [up_n e, up_n e]
      refine ((r6 i (by omega)).of fun z z1 z2 => og z (lt z (g z) rfl (by omega)) (by omega) (by omega)).g gk
  · show w3.2 = _
    rw [← h3]
    show w2.2 = _
    rw [n2, n1', n1s]
theorem x167c {z z2 z3 z4 : Int32} (hz : z < nI 0 ∨ nI 35 < z) : am_x 167 [.ref x, .int z, .int z2, .int z3, .int z4] w = some (.inr (am_xn 0), am_jk w 1 6) := by
  simp only [bx167, bk167_0, x29n hz, Option.bind_some, bct_v, bct_t, otl_s, otl_n, List.cons_append, List.nil_append, List.getElem?_cons_zero, List.getElem?_cons_succ, ↓reduceIte]
theorem x167f {c : Nat} (hc : c ≤ 35) {z z3 z4 : Int32} (hz : z < nI 0 ∨ nI 3 < z) : am_x 167 [.ref x, .int (nI c), .int z, .int z3, .int z4] w = some (.inr (am_xn 1), am_jk w 1 6) := by
  simp only [bx167, bk167_0, x29 hc, bk167_4, x92n hz, Option.bind_some, bct_v, bct_t, otl_s, otl_n, List.cons_append, List.nil_append, List.getElem?_cons_zero, List.getElem?_cons_succ, ↓reduceIte]
theorem x167h {c f : Nat} (hc : c ≤ 35) (hf : f ≤ 3) {z z4 : Int32} (hz : z < nI 1 ∨ nI 500 < z) : am_x 167 [.ref x, .int (nI c), .int (nI f), .int z, .int z4] w = some (.inr (am_xn 1), am_jk w 1 6) := by
  simp only [bx167, bk167_0, x29 hc, bk167_4, x92 (show 3 < 2147483648 by decide) (Nat.zero_le f) hf, bk167_10, x92n hz, Option.bind_some, bct_v, bct_t, otl_s, otl_n, List.cons_append, List.nil_append, List.getElem?_cons_zero, List.getElem?_cons_succ, ↓reduceIte]
theorem x167n (R : RCx w g x fl ka ha wr C B wad kd hr cp br n ws mi nd dr me di re) (hn : n = 3) {c f h : Nat} (hc : c ≤ 35) (hf : f ≤ 3) (h1 : 1 ≤ h) (h5 : h ≤ 500) {z : Int32} : am_x 167 [.ref x, .int (nI c), .int (nI f), .int (nI h), .int z] w = some (.inr (am_xn 2), am_jk w 1 6) := by
  subst hn
  have e6 : am_len w wr = some 3 := lenQ R.2.2.2.2.1 (by decide)
  simp only [bx167, bk167_0, x29 hc, bk167_4, x92 (show 3 < 2147483648 by decide) (Nat.zero_le f) hf, bk167_10, x92 (show 500 < 2147483648 by decide) h1 h5, bk167_18, gfc R.1, oX_0, oX_1, oX_2, oX_3, oX_4, oX_5, oX_6, oX_7, oX_8, bk167_22, bk167_29, bk167_35, e6, bk167_36, bk167_39, Nat.lt_irrefl, Option.bind_some, bct_v, bct_t, otl_s, otl_n, List.cons_append, List.nil_append, List.getElem?_cons_zero, List.getElem?_cons_succ, ↓reduceIte, nI_add, nI_leS, nI_ltS, nI_eqS, nI_m1S, Nat.reduceAdd, Nat.reduceLT, Nat.reduceLeDiff, Nat.reduceMul, Nat.reduceEqDiff, not_true_eq_false, not_false_eq_true]
end MAD
/-- tags of the object's things -/
def gX (g : Nat → Nat) (a : Nat) : Nat → Nat := fun b => if b = a then 1 else if b = a + 1 then 2 else if b = a + 2 then 3 else if b = a + 3 then 4 else if b = a + 4 then 5 else g b
theorem gX_o {g : Nat → Nat} {a b : Nat} (h : b < a ∨ a + 5 ≤ b) : gX g a b = g b := by
  unfold gX
  rw [if_neg (by omega), if_neg (by omega), if_neg (by omega), if_neg (by omega), if_neg (by omega)]
def w6 (w : am_Wd) (f : Nat) : am_Wd := am_pt (am_nw (am_pt (am_nw w (.inl (0, 72, am_in 0)) 72) f (.inr (5, [.ref w.2.1, .null, .long 0, .long 0]))) (.inl (0, 72, am_in 0)) 72) f (.inr (5, [.ref w.2.1, .ref (w.2.1 + 1), .long 0, .long 0]))
theorem x6 {w : am_Wd} {f : Nat} (hf : cO w f 5 [.null, .null, .long 0, .long 0]) (hl : f < w.2.1) : am_x 6 [.ref f] w = some (.inl none, w6 w f) := by
  have a1 : cO (am_nw w (.inl (0, 72, am_in 0)) 72) f 5 [.null, .null, .long 0, .long 0] := cO_of hf (nw_n (by omega))
  have p1 : am_pf (am_nw w (.inl (0, 72, am_in 0)) 72) f 5 0 (.ref w.2.1) = some (am_pt (am_nw w (.inl (0, 72, am_in 0)) 72) f (.inr (5, [.ref w.2.1, .null, .long 0, .long 0]))) := pfc a1 (by show 0 < 4; decide) (by decide)
  have e1 : am_na (am_pt (am_nw w (.inl (0, 72, am_in 0)) 72) f (.inr (5, [.ref w.2.1, .null, .long 0, .long 0]))) 0 (nI 72) = some (am_nw (am_pt (am_nw w (.inl (0, 72, am_in 0)) 72) f (.inr (5, [.ref w.2.1, .null, .long 0, .long 0]))) (.inl (0, 72, am_in 0)) 72) := nac (by decide)
  have a2 : cO (am_nw (am_pt (am_nw w (.inl (0, 72, am_in 0)) 72) f (.inr (5, [.ref w.2.1, .null, .long 0, .long 0]))) (.inl (0, 72, am_in 0)) 72) f 5 [.ref w.2.1, .null, .long 0, .long 0] := cO_of pt_s (nw_n (by show f ≠ w.2.1 + 1; omega))
  have p2 : am_pf (am_nw (am_pt (am_nw w (.inl (0, 72, am_in 0)) 72) f (.inr (5, [.ref w.2.1, .null, .long 0, .long 0]))) (.inl (0, 72, am_in 0)) 72) f 5 1 (.ref (w.2.1 + 1)) = some (w6 w f) := pfc a2 (by show 1 < 4; decide) (by decide)
  have n1 : (am_pt (am_nw w (.inl (0, 72, am_in 0)) 72) f (.inr (5, [.ref w.2.1, .null, .long 0, .long 0]))).2.1 = w.2.1 + 1 := rfl
  simp only [bk6_0, bk6_9, bk6_12, bk6_17, bk6_20, bx6, nac (w := w) (t := 0) (show 72 ≤ 4096 by decide), p1, e1, n1, p2, Option.bind_some, bct_v, bct_t, otl_s, otl_n, List.cons_append, List.nil_append, List.getElem?_cons_zero, List.getElem?_cons_succ, ↓reduceIte]
theorem wks_0 (wad : Nat → Nat) : (fun _ => none : Nat → Option Nat) = wks 0 wad := by
  funext j
  unfold wks
  rw [if_neg (by omega)]
theorem x89 {w : am_Wd} {g : Nat → Nat} {x : Nat} (hx : cO w x 8 [.null, .null, .int 0, .int 0, .int 0, .int 0, .int 0, .int 0, .int 0]) (hw : w.2.1 = x + 1) (wad : Nat → Nat) (ws : Nat → sW) :
    ∃ w', am_x 89 [.ref x] w = some (.inl none, w') ∧ RCx w' (gX g x) x (x + 1) (x + 2) (x + 3) (x + 4) 0 0 wad (fun _ => 0) (fun _ => 0) (fun _ => false) (fun _ => false) 0 ws 0 7 (nI 0) (nI 0) (nI 0) (nI 0) ∧ (∀ z, z < x → w'.1 z = w.1 z) ∧ w'.2 = (x + 5, w.2.2.1 + 151, w.2.2.2) := by
  let w1 := am_nw w (.inr (5, am_df 5 4)) 4
  have h1w : am_nw w (.inr (5, am_df 5 4)) 4 = w1 := rfl
  have f1 : cO w1 (x + 1) 5 [.null, .null, .long 0, .long 0] := by rw [← hw]; exact nw_s
  have n1 : w1.2.1 = x + 2 := by show w.2.1 + 1 = _; omega
  have n1' : w1.2.2 = (w.2.2.1 + 4, w.2.2.2) := rfl
  have o1 : ∀ z, z ≤ x → w1.1 z = w.1 z := fun z hz => nw_n (by omega)
  clear_value w1
  have a6 := x6 f1 (by omega)
  have hI : ∃ w2, w6 w1 (x + 1) = w2 ∧ w2.1 (x + 1) = some (.inr (5, [.ref (x + 2), .ref (x + 3), .long 0, .long 0])) ∧ w2.1 (x + 2) = some (.inl (0, 72, am_in 0)) ∧ w2.1 (x + 3) = some (.inl (0, 72, am_in 0)) ∧ (∀ z, z ≤ x → w2.1 z = w.1 z) ∧ w2.2 = (x + 4, w.2.2.1 + 148, w.2.2.2) := by
    refine ⟨_, rfl, ?_, ?_, ?_, fun z hz => ?_, ?_⟩
    · unfold w6; rw [n1]; exact pt_s
    · unfold w6
      refine (pt_n (by omega)).trans ((nw_n (by show x + 2 ≠ w1.2.1 + 1; omega)).trans ((pt_n (by omega)).trans ?_))
      rw [show x + 2 = w1.2.1 from n1.symm]
      exact nw_s
    · unfold w6
      refine (pt_n (by omega)).trans ?_
      have e : x + 3 = (am_pt (am_nw w1 (.inl (0, 72, am_in 0)) 72) (x + 1) (.inr (5, [.ref w1.2.1, .null, .long 0, .long 0]))).2.1 := by show x + 3 = w1.2.1 + 1; omega
      rw [e]
      exact nw_s
    · unfold w6
      exact (pt_n (by omega)).trans ((nw_n (by show z ≠ w1.2.1 + 1; omega)).trans ((pt_n (by omega)).trans ((nw_n (by omega)).trans (o1 z hz))))
    · show (w1.2.1 + 1 + 1, w1.2.2.1 + 72 + 72, w1.2.2.2) = _
      rw [n1, n1']
  obtain ⟨w2, e2, b1, b2, b3, o2, n2⟩ := hI
  rw [e2] at a6
  have x2 : cO w2 x 8 [.null, .null, .int 0, .int 0, .int 0, .int 0, .int 0, .int 0, .int 0] := (o2 x (Nat.le_refl x)).trans hx
  have p1 : am_pf w2 x 8 0 (.ref (x + 1)) = some (am_pt w2 x (.inr (8, [.ref (x + 1), .null, .int 0, .int 0, .int 0, .int 0, .int 0, .int 0, .int 0]))) := pfc x2 (by show 0 < 9; decide) (by decide)
  generalize h3 : am_pt w2 x (.inr (8, [.ref (x + 1), .null, .int 0, .int 0, .int 0, .int 0, .int 0, .int 0, .int 0])) = w3 at p1
  have x3 : cO w3 x 8 [.ref (x + 1), .null, .int 0, .int 0, .int 0, .int 0, .int 0, .int 0, .int 0] := by rw [← h3]; exact pt_s
  have o3 : ∀ z, z ≠ x → w3.1 z = w2.1 z := fun z hz => by rw [← h3]; exact pt_n hz
  have n3 : w3.2 = (x + 4, w.2.2.1 + 148, w.2.2.2) := by rw [← h3]; exact n2
  have n31 : w3.2.1 = x + 4 := by rw [n3]
  have a3 : am_na w3 4 (nI 3) = some (am_nw w3 (.inl (4, 3, am_in 4)) 3) := nac (by decide)
  generalize h4 : am_nw w3 (.inl (4, 3, am_in 4)) 3 = w4 at a3
  have r4 : w4.1 (x + 4) = some (.inl (4, 3, am_in 4)) := by rw [← h4, ← n31]; exact nw_s
  have o4 : ∀ z, z ≠ x + 4 → w4.1 z = w3.1 z := fun z hz => by rw [← h4]; exact nw_n (by omega)
  have n4 : w4.2 = (x + 5, w.2.2.1 + 151, w.2.2.2) := by
    rw [← h4]
    show (w3.2.1 + 1, w3.2.2.1 + 3, w3.2.2.2) = _
    rw [n3]
  have x4 : cO w4 x 8 [.ref (x + 1), .null, .int 0, .int 0, .int 0, .int 0, .int 0, .int 0, .int 0] := (o4 x (by omega)).trans x3
  have p2 : am_pf w4 x 8 1 (.ref (x + 4)) = some (am_pt w4 x (.inr (8, [.ref (x + 1), .ref (x + 4), .int 0, .int 0, .int 0, .int 0, .int 0, .int 0, .int 0]))) := pfc x4 (by show 1 < 9; decide) (by decide)
  have p3 : am_pf (am_pt w4 x (.inr (8, [.ref (x + 1), .ref (x + 4), .int 0, .int 0, .int 0, .int 0, .int 0, .int 0, .int 0]))) x 8 4 (.int (nI 7)) = some (am_pt w4 x (.inr (8, oX (x + 1) (x + 4) 0 0 7 (nI 0) (nI 0) (nI 0) (nI 0)))) := by
    rw [pfc (fs := [.ref (x + 1), .ref (x + 4), .int 0, .int 0, .int 0, .int 0, .int 0, .int 0, .int 0]) pt_s (by show 4 < 9; decide) (by decide), pt_pt]; rfl
  have o5 : ∀ z, z ≠ x → z ≠ x + 4 → (am_pt w4 x (.inr (8, oX (x + 1) (x + 4) 0 0 7 (nI 0) (nI 0) (nI 0) (nI 0)))).1 z = w2.1 z := fun z k1 k2 => (pt_n k1).trans ((o4 z k2).trans (o3 z k1))
  refine ⟨_, ?_, ⟨pt_s, ⟨(o5 (x + 1) (by omega) (by omega)).trans b1, (o5 (x + 2) (by omega) (by omega)).trans b2, (o5 (x + 3) (by omega) (by omega)).trans b3⟩, bm_0, bm_0, ?_, fun i hi => absurd hi (by omega), ?_, ?_, ?_, ?_, ?_⟩, fun z hz => (o5 z (by omega) (by omega)).trans (o2 z (by omega)), n4⟩
  · simp only [bx89, bk89_0, h1w, hw, bk89_8, a6, bk89_12, p1, bk89_15, a3, n31, bk89_20, p2, bk89_23, p3, bk89_29, Option.bind_some, bct_v, bct_t, otl_s, otl_n, List.cons_append, List.nil_append, List.getElem?_cons_zero, List.getElem?_cons_succ, ↓reduceIte]
  · refine (pt_n (by omega)).trans (r4.trans ?_)
    rw [in4, wks_0 wad]
  · unfold gX; rw [if_pos rfl]
  · unfold gX; rw [if_neg (by omega), if_pos rfl]
  · unfold gX; rw [if_neg (by omega), if_neg (by omega), if_pos rfl]
  · unfold gX; rw [if_neg (by omega), if_neg (by omega), if_neg (by omega), if_pos rfl]
  · unfold gX; rw [if_neg (by omega), if_neg (by omega), if_neg (by omega), if_neg (by omega), if_pos rfl]
