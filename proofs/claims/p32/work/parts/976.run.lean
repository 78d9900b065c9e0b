/-! THE LAW FROM ITS ENTRY. Mine. -/
theorem lay_nd : ∀ c (s : Nat) {kd hr : Nat → Nat}, ndk kd → ndk (layN c (s, kd, hr)).2.1
  | 0, _, _, _, h => h
  | c + 1, s, kd, hr, h => by
    have h1 : ∀ {z : sLay} {c s : Nat}, ndk z.2.1 → ndk (lay1 c s z).2.1 := fun {z c s} hz => by
      unfold lay1
      split
      · exact hz
      · intro k
        show up z.2.1 _ _ k ≤ 1
        unfold up
        split
        · split <;> decide
        · exact hz k
    exact h1 (h1 (lay_nd c s h))
section LR0
variable {w : am_Wd} {g : Nat → Nat} {b L x k s : Nat} {xs : Nat → Int32}
theorem law_rest {ws : Nat → sW} (h : LQ b L xs x (fun _ => 0, fun _ => 0, fun _ => false, fun _ => false, 0, ws, 0, 7, nI 0, nI 0, nI 0, nI 0) w g k s) : ∃ w', am_run 270 7 [some (.ref b), none, none, none, none, none, none, none, none, none, none, none] [.ref x] w = some (.inl (some (.int (nI 1))), w') ∧ w'.2.1 ≤ k + 6090 ∧ w'.2.2.1 ≤ s + 13000 := by
  -- the floor
  have s0 := lq_s h (j := 0) (by decide)
  have c0 := blw_lt (v := scr L xs 0) (m := 127) (by decide)
  have h0 := h
  obtain ⟨⟨fl, ka, ha, wr, C, B, wad, R⟩, hJ, -⟩ := h0
  have k0 : kdok (fun _ => 0) := fun _ => Nat.zero_le 2
  have r0 : hrok (fun _ => 0) := fun _ => (show (0 : Nat) < 16777216 by decide)
  obtain ⟨w1, a1, R1, f1⟩ := x200 R k0 r0 (s := blw (scr L xs 0) 127) (by omega)
  obtain ⟨l1, l2⟩ := lay_ok (z := (blw (scr L xs 0) 127, (fun _ => 0), (fun _ => 0))) k0 r0 36
  have l3 := layN_z (z := (blw (scr L xs 0) 127, (fun _ => 0), (fun _ => 0))) (fun _ _ _ => rfl) 36 (Nat.le_refl _)
  have l4 : ndk (layN 36 (blw (scr L xs 0) 127, (fun _ => 0), (fun _ => 0))).2.1 := lay_nd 36 _ (fun _ => Nat.zero_le 1)
  have kx := rc_kf R
  have t1 : am_run 270 7 [some (.ref b), none, none, none, none, none, none, none, none, none, none, none] [.ref x] w = am_run 270 25 [some (.ref b), some (.ref x), some (.int (nI 0)), none, none, none, none, none, none, none, none, none] [] w1 := by
    simp only [bk270_7, s0, bk270_14, x266 (v := scr L xs 0) (m := 127) (by decide) (by decide), bk270_19, kx, a1, bk270_22, Option.bind_some, bct_v, bct_t, otl_s, otl_n, List.cons_append, List.nil_append, List.getElem?_cons_zero, List.getElem?_cons_succ, ↓reduceIte]
  have h1 := lq_stp (S' := ((layN 36 (blw (scr L xs 0) 127, (fun _ => 0), (fun _ => 0))).2.1, (layN 36 (blw (scr L xs 0) 127, (fun _ => 0), (fun _ => 0))).2.2, (fun _ => false), (fun _ => false), 0, ws, 0, 7, nI 0, nI 0, nI 0, nI 0)) h ⟨_, _, _, _, _, _, _, R1⟩ (stp_frm hJ f1 (by decide) (by decide))
  have G1 : GS 0 ((layN 36 (blw (scr L xs 0) 127, (fun _ => 0), (fun _ => 0))).2.1, (layN 36 (blw (scr L xs 0) 127, (fun _ => 0), (fun _ => 0))).2.2, (fun _ => false), (fun _ => false), 0, ws, 0, 7, nI 0, nI 0, nI 0, nI 0) := ⟨⟨l1, l2, l3, Nat.zero_le 3, Nat.zero_le 3000, (by decide), fun i hi => absurd hi (Nat.not_lt_zero i)⟩, l4, fun i hi => absurd hi (Nat.not_lt_zero i), Nat.zero_le _, ⟨0, Nat.le_refl _, rfl⟩, rfl⟩
  rw [t1]
  clear t1 a1 R1 f1 l1 l2 l3 l4 R
  have h1 := lq_wk h1 (show k + 0 ≤ k by omega) (show s + 0 ≤ s by omega)
  generalize (layN 36 (blw (scr L xs 0) 127, (fun _ => 0), (fun _ => 0))).2.1 = kd at h1 G1
  generalize (layN 36 (blw (scr L xs 0) 127, (fun _ => 0), (fun _ => 0))).2.2 = hr at h1 G1
  -- the cells
  obtain ⟨⟨w2, S2⟩, ⟨G2, n2, h2⟩, t2⟩ := loopN (n := 8) (b := ((w1, (kd, hr, (fun _ => false), (fun _ => false), 0, ws, 0, 7, nI 0, nI 0, nI 0, nI 0)) : am_Wd × sS)) (Q := fun j p => am_run 270 25 [some (.ref b), some (.ref x), some (.int (nI j)), none, none, none, none, none, none, none, none, none] [] p.1) (I := fun j p => GS 0 p.2 ∧ p.2.2.2.2.2.1 = 0 ∧ LQ b L xs x p.2 p.1 g k s) ⟨G1, rfl, h1⟩ (by
    rintro j ⟨w, S⟩ hj ⟨G, n, h⟩
    obtain ⟨w', S', G', n', h', t⟩ := it8 hj G h
    exact ⟨(w', S'), ⟨G', n'.trans n, h'⟩, t⟩)
  have t2 : am_run 270 25 [some (.ref b), some (.ref x), some (.int (nI 0)), none, none, none, none, none, none, none, none, none] [] w1 = am_run 270 25 [some (.ref b), some (.ref x), some (.int (nI 8)), none, none, none, none, none, none, none, none, none] [] w2 := t2
  have G2 : GS 0 S2 := G2
  have n2 : S2.2.2.2.2.1 = 0 := n2
  have h2 : LQ b L xs x S2 w2 g k s := h2
  have s1 := lq_s h2 (j := 1) (by decide)
  have c1 := blw_lt (v := scr L xs 1) (m := 3) (by decide)
  have t3 : am_run 270 25 [some (.ref b), some (.ref x), some (.int (nI 8)), none, none, none, none, none, none, none, none, none] [] w2 = am_run 270 90 [some (.ref b), some (.ref x), some (.int (nI (1 + blw (scr L xs 1) 3))), some (.int (nI 0)), none, none, none, none, none, none, none, none] [] w2 := by
    have e8 : (nI 8 ≤ nI 8) = True := by rw [nI_leS (by decide) (by decide)]; exact eq_true (by decide)
    simp only [bk270_25, e8, bk270_76, s1, bk270_82, x266 (v := scr L xs 1) (m := 3) (by decide) (by decide), bk270_86, nI_add, Option.bind_some, bct_v, bct_t, otl_s, otl_n, List.cons_append, List.nil_append, List.getElem?_cons_zero, List.getElem?_cons_succ, ↓reduceIte]
  rw [t2, t3]
  clear t2 t3 h1 G1
  generalize hm : 1 + blw (scr L xs 1) 3 = many
  -- the walkers
  obtain ⟨⟨w3, g3, S3⟩, ⟨G3, n3, h3⟩, t3⟩ := loopN (n := many) (b := ((w2, g, S2) : am_Wd × (Nat → Nat) × sS)) (Q := fun j p => am_run 270 90 [some (.ref b), some (.ref x), some (.int (nI many)), some (.int (nI j)), none, none, none, none, none, none, none, none] [] p.1) (I := fun j p => GS 0 p.2.2 ∧ p.2.2.2.2.2.2.1 = j ∧ LQ b L xs x p.2.2 p.1 p.2.1 (k + 6 * j) (s + 24 * j)) ⟨G2, n2, h2⟩ (by
    rintro j ⟨w, g, S⟩ hj ⟨G, n, h⟩
    obtain ⟨w', g', S', G', n', h', t⟩ := it3 hj (by omega) G n h
    exact ⟨(w', g', S'), ⟨G', n', lq_wk h' (by omega) (by omega)⟩, t⟩)
  have t3 : am_run 270 90 [some (.ref b), some (.ref x), some (.int (nI many)), some (.int (nI 0)), none, none, none, none, none, none, none, none] [] w2 = am_run 270 90 [some (.ref b), some (.ref x), some (.int (nI many)), some (.int (nI many)), none, none, none, none, none, none, none, none] [] w3 := t3
  have G3 : GS 0 S3 := G3
  have n3 : S3.2.2.2.2.1 = many := n3
  have h3 : LQ b L xs x S3 w3 g3 (k + 6 * many) (s + 24 * many) := h3
  have t4 : am_run 270 90 [some (.ref b), some (.ref x), some (.int (nI many)), some (.int (nI many)), none, none, none, none, none, none, none, none] [] w3 = am_run 270 172 [some (.ref b), some (.ref x), some (.int (nI many)), some (.int (nI 0)), none, none, none, none, none, none, none, none] [] w3 := by
    have em : (nI many ≤ nI many) = True := by rw [nI_leS (by omega) (by omega)]; exact eq_true (Nat.le_refl _)
    simp only [bk270_90, em, bk270_170, Option.bind_some, bct_v, bct_t, otl_s, otl_n, List.cons_append, List.nil_append, List.getElem?_cons_zero, List.getElem?_cons_succ, ↓reduceIte]
  rw [t3, t4]
  clear t3 t4 h2 G2
  -- the steps
  obtain ⟨⟨w4, S4⟩, ⟨G4, n4, h4⟩, t5⟩ := loopN (n := 60) (b := ((w3, S3) : am_Wd × sS)) (Q := fun j p => am_run 270 172 [some (.ref b), some (.ref x), some (.int (nI many)), some (.int (nI j)), none, none, none, none, none, none, none, none] [] p.1) (I := fun j p => GS j p.2 ∧ p.2.2.2.2.2.1 = many ∧ LQ b L xs x p.2 p.1 g3 (k + 6 * many + 101 * j) (s + 24 * many + 213 * j)) ⟨G3, n3, h3⟩ (by
    rintro j ⟨w, S⟩ hj ⟨G, n, h⟩
    obtain ⟨w', S', G', n', h', t⟩ := it60 hj (by omega) (by omega) G n h
    exact ⟨(w', S'), ⟨G', n', lq_wk h' (by omega) (by omega)⟩, t⟩)
  have t5 : am_run 270 172 [some (.ref b), some (.ref x), some (.int (nI many)), some (.int (nI 0)), none, none, none, none, none, none, none, none] [] w3 = am_run 270 172 [some (.ref b), some (.ref x), some (.int (nI many)), some (.int (nI 60)), none, none, none, none, none, none, none, none] [] w4 := t5
  have G4 : GS 60 S4 := G4
  have n4 : S4.2.2.2.2.1 = many := n4
  have h4 : LQ b L xs x S4 w4 g3 (k + 6 * many + 101 * 60) (s + 24 * many + 213 * 60) := h4
  obtain ⟨w5, t6, q1, q2⟩ := fin3 G4 (by omega) h4
  refine ⟨w5, ?_, by omega, by omega⟩
  have e60 : (nI 60 ≤ nI 60) = True := by rw [nI_leS (by decide) (by decide)]; exact eq_true (by decide)
  rw [t5, bk270_172, if_pos (by rw [e60]; exact trivial)]
  exact t6
end LR0
section LR
variable {w : am_Wd} {g : Nat → Nat} {b L : Nat} {xs : Nat → Int32}
theorem law_run (hg : ∀ a, g a = 0) (hb : cI w b 8 L xs) (lb : b < w.2.1) (hL : L ≤ 260) {o : Nat} {xf : Nat → Int64} (hs : stO w o xf) (lo : o < w.2.1) : ∃ w', am_x 270 [.ref b] w = some (.inl (some (.int (nI 1))), w') ∧ w'.2.1 ≤ w.2.1 + 7000 ∧ w'.2.2.1 ≤ w.2.2.1 + 14000 := by
  have hJ : gJ w g := fun a _ => hg a
  -- the object
  have e1 : ext w (am_nw w (.inr (8, am_df 8 9)) 9) 1 9 := ext_nw
  have c1 : cO (am_nw w (.inr (8, am_df 8 9)) 9) w.2.1 8 [.null, .null, .int 0, .int 0, .int 0, .int 0, .int 0, .int 0, .int 0] := nw_s
  obtain ⟨wA, a1, R1, o1, z1⟩ := x89 (g := g) c1 rfl (fun _ => 0) (fun _ => (0, 0, 0, 0, 0, 0, 0, fun _ => false, fun _ => 0))
  have z1 : wA.2 = (w.2.1 + 5, w.2.2.1 + 9 + 151, w.2.2.2) := z1
  have sA : stp 1 40 g (gX g w.2.1) 5 160 w wA := by
    refine ⟨fun a ha _ => (o1 a ha).trans (e1.1 a ha), fun a ha => gX_o (Or.inl ha), fun a ha => ?_, fun a ha => ?_, ?_⟩
    · by_cases q : a < w.2.1 + 5
      · refine Or.inr ?_
        unfold gX
        rcases (show a = w.2.1 ∨ a = w.2.1 + 1 ∨ a = w.2.1 + 2 ∨ a = w.2.1 + 3 ∨ a = w.2.1 + 4 by omega) with rfl | rfl | rfl | rfl | rfl
        · rw [if_pos rfl]; decide
        · rw [if_neg (by omega), if_pos rfl]; decide
        · rw [if_neg (by omega), if_neg (by omega), if_pos rfl]; decide
        · rw [if_neg (by omega), if_neg (by omega), if_neg (by omega), if_pos rfl]; decide
        · rw [if_neg (by omega), if_neg (by omega), if_neg (by omega), if_neg (by omega), if_pos rfl]; decide
      · rw [gX_o (Or.inr (by omega))]
        exact Or.inl (hJ a ha)
    · rw [z1] at ha
      have ha : w.2.1 + 5 ≤ a := ha
      rw [gX_o (Or.inr ha)]
      exact hJ a (by omega)
    · rw [z1]
      exact ⟨Nat.le_add_right _ _, Nat.le_refl _, by show w.2.2.1 ≤ w.2.2.1 + 9 + 151; omega, by show w.2.2.1 + 9 + 151 ≤ w.2.2.1 + 160; omega, rfl⟩
  have a1' : am_x 89 [.ref w.2.1] (am_nw w (.inr (8, am_df 8 9)) 9) = some (.inl none, wA) := a1
  have hA : LQ b L xs w.2.1 (fun _ => 0, fun _ => 0, fun _ => false, fun _ => false, 0, fun _ => (0, 0, 0, 0, 0, 0, 0, fun _ => false, fun _ => 0), 0, 7, nI 0, nI 0, nI 0, nI 0) wA (gX g w.2.1) (w.2.1 + 5) (w.2.2.1 + 160) := by
    obtain ⟨p1, p2, p3, p4, p5, p6, p7, p8, p9⟩ := sA
    refine ⟨⟨_, _, _, _, _, _, _, R1⟩, p4, ⟨o, xf, ⟨by rw [p9]; exact hs.1, (p1 o lo (Or.inl (by rw [hg]; decide))).trans hs.2.1, hs.2.2⟩, by omega, (p2 o lo).trans (hg o)⟩, ⟨cI_of hb (p1 b lb (Or.inl (by rw [hg]; decide))), by omega, (p2 b lb).trans (hg b), hL⟩, p6, p8⟩
  have t1 : am_x 270 [.ref b] w = am_run 270 7 [some (.ref b), none, none, none, none, none, none, none, none, none, none, none] [.ref w.2.1] wA := by
    simp only [bx270, bk270_0, bk270_3, a1', Option.bind_some, bct_v, bct_t, otl_s, otl_n, List.cons_append, List.nil_append, List.getElem?_cons_zero, List.getElem?_cons_succ, ↓reduceIte]
  rw [t1]
  clear t1 sA a1' a1 R1 o1 z1 e1 c1
  obtain ⟨w', t, q1, q2⟩ := law_rest hA
  exact ⟨w', t, by omega, by omega⟩
end LR
