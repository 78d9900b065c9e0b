/-! THE LAW'S LOOPS. Mine. -/
/-- what holds along the law's run: b the script, x the class's object -/
def LQ (b L : Nat) (xs : Nat → Int32) (x : Nat) (S : sS) (w : am_Wd) (g : Nat → Nat) (k s : Nat) : Prop := RC w g x S ∧ gJ w g ∧ (∃ (o : Nat) (xf : Nat → Int64), stO w o xf ∧ o < w.2.1 ∧ g o = 0) ∧ (cI w b 8 L xs ∧ b < w.2.1 ∧ g b = 0 ∧ L ≤ 260) ∧ w.2.1 ≤ k ∧ w.2.2.1 ≤ s
theorem nI_lit : (nI 1 = nI 0) = False := by rw [nI_eqS (by decide) (by decide)]; exact eq_false (by decide)
section LQS
variable {w w' : am_Wd} {g g' : Nat → Nat} {x b L : Nat} {xs : Nat → Int32} {S S' : sS} {k s k' s' : Nat}
theorem lq_stp (h : LQ b L xs x S w g k s) (R' : RC w' g' x S') (p : stp 1 40 g g' k' s' w w') : LQ b L xs x S' w' g' (k + k') (s + s') := by
  obtain ⟨-, hJ, ⟨o, xf, ⟨a1, a2, a3⟩, a4, a5⟩, ⟨b1, b2, b3, b4⟩, hk, hs⟩ := h
  obtain ⟨p1, p2, p3, p4, p5, p6, p7, p8, p9⟩ := p
  exact ⟨R', p4, ⟨o, xf, ⟨by rw [p9]; exact a1, by rw [p1 o a4 (by omega)]; exact a2, a3⟩, by omega, by rw [p2 o a4]; exact a5⟩, ⟨cI_of b1 (p1 b b2 (by omega)), by omega, by rw [p2 b b2]; exact b3, b4⟩, by omega, by omega⟩
theorem lq_wk (h : LQ b L xs x S w g k s) (hk : k ≤ k') (hs : s ≤ s') : LQ b L xs x S w g k' s' := by
  obtain ⟨h1, h2, h3, h4, h5, h6⟩ := h
  exact ⟨h1, h2, h3, h4, Nat.le_trans h5 hk, Nat.le_trans h6 hs⟩
theorem lq_n {kd hr : Nat → Nat} {cp br : Nat → Bool} {n : Nat} {ws : Nat → sW} {mi nd : Nat} {dr me di re : Int32} {j : Nat} (h : GS j (kd, hr, cp, br, n, ws, mi, nd, dr, me, di, re)) : n ≤ 3 := h.1.2.2.2.1
/-- a new row -/
theorem lq_nw {e : am_En} {j m : Nat} (G : GS j S) (h : LQ b L xs x S w g k s) : LQ b L xs x S (am_nw w e m) g (k + 1) (s + m) := by
  obtain ⟨kd, hr, cp, br, n, ws, mi, nd, dr, me, di, re⟩ := S
  obtain ⟨⟨fl, ka, ha, wr, C, B, wad, R⟩, hJ, ⟨o, xf, ⟨a1, a2, a3⟩, a4, a5⟩, ⟨b1, b2, b3, b4⟩, hk, hs⟩ := h
  have e1 : ext w (am_nw w e m) 1 m := ext_nw
  exact ⟨⟨fl, ka, ha, wr, C, B, wad, rc_fr R (lq_n G) fun c h1 h2 => e1.1 c (lt_J hJ rfl (by omega))⟩, gJ_ext hJ e1, ⟨o, xf, ⟨a1, (e1.1 o a4).trans a2, a3⟩, by show o < w.2.1 + 1; omega, a5⟩, ⟨cI_of b1 (e1.1 b b2), by show b < w.2.1 + 1; omega, b3, b4⟩, by show w.2.1 + 1 ≤ k + 1; omega, by show w.2.2.1 + m ≤ s + m; omega⟩
/-- the row written -/
theorem lq_pt {a j : Nat} {f f' : Nat → Int32} (G : GS j S) (h : LQ b L xs x S w g k s) (ha : cI w a 0 13 f) (ga : g a = 0) : LQ b L xs x S (am_pt w a (.inl (0, 13, .inl f'))) g k s := by
  obtain ⟨kd, hr, cp, br, n, ws, mi, nd, dr, me, di, re⟩ := S
  obtain ⟨⟨fl, ka, ha', wr, C, B, wad, R⟩, hJ, ⟨o, xf, ⟨a1, a2, a3⟩, a4, a5⟩, ⟨b1, b2, b3, b4⟩, hk, hs⟩ := h
  have no : o ≠ a := fun e => by
    subst e
    cases (show w.1 o = _ from ha).symm.trans a2
  have nb : b ≠ a := fun e => by
    subst e
    cases (show w.1 b = _ from ha).symm.trans b1
  exact ⟨⟨fl, ka, ha', wr, C, B, wad, rc_fr R (lq_n G) fun c h1 h2 => pt_n (fun e => by subst e; omega)⟩, hJ, ⟨o, xf, ⟨a1, (pt_n no).trans a2, a3⟩, a4, a5⟩, ⟨cI_of b1 (pt_n nb), b2, b3, b4⟩, hk, hs⟩
theorem lq_s (h : LQ b L xs x S w g k s) {j : Nat} (hj : j < 2147483648) : am_x 267 [.ref b, .int (nI j)] w = some (.inl (some (.int (scr L xs j))), w) := x267 h.2.2.2.1.1 (by have := h.2.2.2.1.2.2.2; omega) hj
/-- cells are told -/
theorem it8 {j : Nat} (hj : j < 8) (G : GS 0 S) (h : LQ b L xs x S w g k s) : ∃ (w' : am_Wd) (S' : sS), GS 0 S' ∧ S'.2.2.2.2.1 = S.2.2.2.2.1 ∧ LQ b L xs x S' w' g k s ∧ am_run 270 25 [some (.ref b), some (.ref x), some (.int (nI j)), none, none, none, none, none, none, none, none, none] [] w = am_run 270 25 [some (.ref b), some (.ref x), some (.int (nI (j + 1))), none, none, none, none, none, none, none, none, none] [] w' := by
  have s0 := lq_s h (j := j) (by omega)
  have s4 := lq_s h (j := j + 4) (by omega)
  obtain ⟨kd, hr, cp, br, n, ws, mi, nd, dr, me, di, re⟩ := S
  have h0 := h
  obtain ⟨⟨fl, ka, ha, wr, C, B, wad, R⟩, hJ, -⟩ := h0
  have hc := blw_lt (v := scr L xs j + nI (5 * j)) (m := 36) (by decide)
  have h3 := blw_lt (v := scr L xs (j + 4)) (m := 3) (by decide)
  have e8 : (nI 8 ≤ nI j) = (8 ≤ j) := nI_leS (by decide) (by omega)
  have e0 : (nI (blw (scr L xs (j + 4)) 3) = nI 0) = (blw (scr L xs (j + 4)) 3 = 0) := nI_eqS (by omega) (by decide)
  have n8 : ¬ 8 ≤ j := by omega
  obtain ⟨w', C', B', a, R', f⟩ := x90 R (c := blw (scr L xs j + nI (5 * j)) 36) (by omega) true (decide (blw (scr L xs (j + 4)) 3 = 0))
  have kx := rc_kf R
  refine ⟨w', (kd, hr, up cp _ true, up br _ (decide (blw (scr L xs (j + 4)) 3 = 0)), n, ws, mi, nd, dr, me, di, re), G, rfl, lq_stp h ⟨_, _, _, _, _, _, _, R'⟩ (stp_frm hJ f (by decide) (by decide)), ?_⟩
  by_cases q : blw (scr L xs (j + 4)) 3 = 0
  · rw [decide_eq_true q, b2i_t] at a
    simp only [bk270_25, e8, n8, bk270_31, s0, nI_mulS, bk270_37, x266 (v := scr L xs j + nI (5 * j)) (m := 36) (by decide) (by decide), bk270_46, s4, nI_add, bk270_54, x266 (v := scr L xs (j + 4)) (m := 3) (by decide) (by decide), bk270_58, e0, q, not_true_eq_false, bk270_61, bk270_66, kx, a, bk270_69, Option.bind_some, bct_v, bct_t, otl_s, otl_n, List.cons_append, List.nil_append, List.getElem?_cons_zero, List.getElem?_cons_succ, ↓reduceIte]
  · rw [decide_eq_false q, b2i_f, b2i_t] at a
    simp only [bk270_25, e8, n8, bk270_31, s0, nI_mulS, bk270_37, x266 (v := scr L xs j + nI (5 * j)) (m := 36) (by decide) (by decide), bk270_46, s4, nI_add, bk270_54, x266 (v := scr L xs (j + 4)) (m := 3) (by decide) (by decide), bk270_58, e0, q, not_false_eq_true, bk270_65, bk270_66, kx, a, bk270_69, Option.bind_some, bct_v, bct_t, otl_s, otl_n, List.cons_append, List.nil_append, List.getElem?_cons_zero, List.getElem?_cons_succ, ↓reduceIte]
/-- a walker is made -/
theorem it3 {j many : Nat} (hj : j < many) (hm : many ≤ 3) (G : GS 0 S) (hn : S.2.2.2.2.1 = j) (h : LQ b L xs x S w g k s) : ∃ (w' : am_Wd) (g' : Nat → Nat) (S' : sS), GS 0 S' ∧ S'.2.2.2.2.1 = j + 1 ∧ LQ b L xs x S' w' g' (k + 6) (s + 24) ∧ am_run 270 90 [some (.ref b), some (.ref x), some (.int (nI many)), some (.int (nI j)), none, none, none, none, none, none, none, none] [] w = am_run 270 90 [some (.ref b), some (.ref x), some (.int (nI many)), some (.int (nI (j + 1))), none, none, none, none, none, none, none, none] [] w' := by
  have s2 := lq_s h (j := j + 2) (by omega)
  have s3 := lq_s h (j := j + 3) (by omega)
  have s5 := lq_s h (j := j + 5) (by omega)
  have s6 := lq_s h (j := j + 6) (by omega)
  obtain ⟨kd, hr, cp, br, n, ws, mi, nd, dr, me, di, re⟩ := S
  obtain rfl : n = j := hn
  have h0 := h
  obtain ⟨⟨fl, ka, ha, wr, C, B, wad, R⟩, hJ, ⟨o, xf, hso, lo, go⟩, -⟩ := h0
  have c2 := blw_lt (v := scr L xs (n + 2)) (m := 36) (by decide)
  have c3 := blw_lt (v := scr L xs (n + 3)) (m := 4) (by decide)
  have c5 := blw_lt (v := scr L xs (n + 5)) (m := 400) (by decide)
  have c6 := blw_lt (v := scr L xs (n + 6)) (m := 3) (by decide)
  have em : (nI many ≤ nI n) = (many ≤ n) := nI_leS (by omega) (by omega)
  have nm : ¬ many ≤ n := by omega
  have e0 : (nI (blw (scr L xs (n + 6)) 3) ≤ nI 0) = (blw (scr L xs (n + 6)) 3 ≤ 0) := nI_leS (by omega) (by decide)
  have kx := rc_kf R
  obtain ⟨w', a, R', a3, a4⟩ := x167 R (by omega) hJ hso lo (c := blw (scr L xs (n + 2)) 36) (f := blw (scr L xs (n + 3)) 4) (h := 30 + blw (scr L xs (n + 5)) 400) (by omega) (by omega) (by omega) (by omega) (decide (¬ blw (scr L xs (n + 6)) 3 ≤ 0))
  have p : stp 1 40 g (gW g w.2.1 n) 6 24 w w' := by
    refine ⟨a3, fun z hz => gW_o (Or.inl hz), fun z hz => ?_, fun z hz => ?_, ?_⟩
    · by_cases q : z < w.2.1 + 6
      · refine Or.inr ?_
        obtain ⟨t1, t2, t3, t4, t5, t6⟩ := gW_at g w.2.1 n
        rcases (show z = w.2.1 ∨ z = w.2.1 + 1 ∨ z = w.2.1 + 2 ∨ z = w.2.1 + 3 ∨ z = w.2.1 + 4 ∨ z = w.2.1 + 5 by omega) with rfl | rfl | rfl | rfl | rfl | rfl <;> omega
      · rw [gW_o (Or.inr (by omega))]
        exact Or.inl (hJ z hz)
    · rw [a4] at hz
      have hz : w.2.1 + 6 ≤ z := hz
      rw [gW_o (Or.inr hz)]
      exact hJ z (by omega)
    · rw [a4]
      exact ⟨Nat.le_add_right _ _, Nat.le_refl _, Nat.le_add_right _ _, Nat.le_refl _, rfl⟩
  obtain ⟨⟨o1, o2, o3, o4, o5, o6, o7⟩, g1, g2, g3, g4, g5⟩ := G
  have gw : ∀ i, i < n + 1 → gdW kd 0 (up ws n (blw (scr L xs (n + 2)) 36, blw (scr L xs (n + 2)) 36 * 4 + blw (scr L xs (n + 3)) 4, 30 + blw (scr L xs (n + 5)) 400, nI 0, nI 0, nI 0, nI 0, may0 (blw (scr L xs (n + 2)) 36 * 4 + blw (scr L xs (n + 3)) 4) (decide (¬ blw (scr L xs (n + 6)) 3 ≤ 0)), fun _ => 0) i) := fun i hi => by
    by_cases e : i = n
    · subst e
      rw [up_s]
      exact gdW_new (by omega) (by omega) (by omega) _
    · rw [up_n e]
      exact g2 i (by omega)
  refine ⟨w', gW g w.2.1 n, (kd, hr, cp, br, n + 1, up ws n (blw (scr L xs (n + 2)) 36, blw (scr L xs (n + 2)) 36 * 4 + blw (scr L xs (n + 3)) 4, 30 + blw (scr L xs (n + 5)) 400, nI 0, nI 0, nI 0, nI 0, may0 (blw (scr L xs (n + 2)) 36 * 4 + blw (scr L xs (n + 3)) 4) (decide (¬ blw (scr L xs (n + 6)) 3 ≤ 0)), fun _ => 0), mi, nd, dr, me, di, re), ⟨⟨o1, o2, o3, by omega, o5, o6, fun i hi => (gw i hi).1⟩, g1, gw, g3, g4, g5⟩, rfl, lq_stp h ⟨_, _, _, _, _, _, _, R'⟩ p, ?_⟩
  by_cases q : blw (scr L xs (n + 6)) 3 ≤ 0
  · rw [decide_eq_false (fun z => z q), b2i_f] at a
    simp only [bk270_90, em, nm, bk270_95, nI_add, s2, bk270_103, x266 (v := scr L xs (n + 2)) (m := 36) (by decide) (by decide), bk270_108, s3, bk270_115, x266 (v := scr L xs (n + 3)) (m := 4) (by decide) (by decide), bk270_119, s5, bk270_128, x266 (v := scr L xs (n + 5)) (m := 400) (by decide) (by decide), bk270_134, s6, bk270_143, x266 (v := scr L xs (n + 6)) (m := 3) (by decide) (by decide), bk270_147, e0, q, bk270_154, bk270_155, kx, a, bk270_158, bk270_164, Option.bind_some, bct_v, bct_t, otl_s, otl_n, List.cons_append, List.nil_append, List.getElem?_cons_zero, List.getElem?_cons_succ, ↓reduceIte]
  · rw [decide_eq_true q, b2i_t] at a
    simp only [bk270_90, em, nm, bk270_95, nI_add, s2, bk270_103, x266 (v := scr L xs (n + 2)) (m := 36) (by decide) (by decide), bk270_108, s3, bk270_115, x266 (v := scr L xs (n + 3)) (m := 4) (by decide) (by decide), bk270_119, s5, bk270_128, x266 (v := scr L xs (n + 5)) (m := 400) (by decide) (by decide), bk270_134, s6, bk270_143, x266 (v := scr L xs (n + 6)) (m := 3) (by decide) (by decide), bk270_147, e0, q, bk270_150, bk270_155, kx, a, bk270_158, bk270_164, Option.bind_some, bct_v, bct_t, otl_s, otl_n, List.cons_append, List.nil_append, List.getElem?_cons_zero, List.getElem?_cons_succ, ↓reduceIte]
end LQS
