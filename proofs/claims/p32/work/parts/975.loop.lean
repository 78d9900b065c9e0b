/-! THE LAW'S LONG LOOP; its end. Mine. -/
section LP3
variable {w w' : am_Wd} {g g' : Nat → Nat} {x b L : Nat} {xs : Nat → Int32} {S S' : sS} {k s k' s' : Nat}
/-- what was had: thirteen numbers -/
theorem it13 {kd hr : Nat → Nat} {cp br : Nat → Bool} {n : Nat} {ws : Nat → sW} {mi nd : Nat} {dr me di re : Int32} {i a j : Nat} {z2 z3 z4 z5 : Int32} (G : GS j (kd, hr, cp, br, n, ws, mi, nd, dr, me, di, re)) (hi : i < n) (h : LQ b L xs x (kd, hr, cp, br, n, ws, mi, nd, dr, me, di, re) w g k s) (ga : g a = 0) (ha : cI w a 0 13 (fun _ => 0)) :
    ∃ (w' : am_Wd) (f : Nat → Int32), LQ b L xs x (kd, hr, cp, br, n, ws, mi, nd, dr, me, di, re) w' g k s ∧ w'.2 = w.2 ∧ cI w' a 0 13 f ∧ (∀ q, q < 13 → f q = ofwS kd hr mi (ws i) q) ∧ am_run 270 229 [some (.ref b), some (.ref x), some (.int z2), some (.int z3), some (.int z4), some (.int z5), some (.int (nI i)), some (.ref a), some (.int (nI 0)), none, none, none] [] w = am_run 270 229 [some (.ref b), some (.ref x), some (.int z2), some (.int z3), some (.int z4), some (.int z5), some (.int (nI i)), some (.ref a), some (.int (nI 13)), none, none, none] [] w' := by
  obtain ⟨w', ⟨f, h1, h2, h3, h4⟩, h5⟩ := loopN (n := 13) (b := w) (Q := fun q w => am_run 270 229 [some (.ref b), some (.ref x), some (.int z2), some (.int z3), some (.int z4), some (.int z5), some (.int (nI i)), some (.ref a), some (.int (nI q)), none, none, none] [] w)
    (I := fun q w1 => ∃ f : Nat → Int32, LQ b L xs x (kd, hr, cp, br, n, ws, mi, nd, dr, me, di, re) w1 g k s ∧ w1.2 = w.2 ∧ cI w1 a 0 13 f ∧ ∀ z, z < q → f z = ofwS kd hr mi (ws i) z) ⟨_, h, rfl, ha, fun z hz => absurd hz (Nat.not_lt_zero z)⟩ (by
    rintro q w1 hq ⟨f, h1, h2, h3, h4⟩
    have h0 := h1
    obtain ⟨⟨fl, ka, ha, wr, C, B, wad, R⟩, -⟩ := h0
    obtain ⟨⟨o1, o2, o3, o4, o5, o6, o7⟩, -⟩ := id G
    have kx := rc_kf R
    have a1 := x201 R o4 o1 o2 o5 hi (sW_eta (ws i)) (o7 i hi).1.2.2.2.1 (k := q) (by omega)
    have e13 : (nI 13 ≤ nI q) = (13 ≤ q) := nI_leS (by decide) (by omega)
    have n13 : ¬ 13 ≤ q := by omega
    have p1 := wic (x := ofwS kd hr mi (ws i) q) h3 hq (by decide)
    refine ⟨_, ⟨upd f q (ofwS kd hr mi (ws i) q), lq_pt G h1 h3 ga, h2, pt_s, fun z hz => ?_⟩, ?_⟩
    · unfold upd
      by_cases e : z = q
      · subst e; rw [if_pos rfl]
      · rw [if_neg e]; exact h4 z (by omega)
    · simp only [bk270_229, e13, n13, bk270_236, kx, a1, bk270_248, p1, bk270_249, nI_add, Option.bind_some, bct_v, bct_t, otl_s, otl_n, List.cons_append, List.nil_append, List.getElem?_cons_zero, List.getElem?_cons_succ, ↓reduceIte])
  exact ⟨w', f, h1, h2, h3, h4, h5⟩
/-- one step of sixty -/
theorem it60 {j many : Nat} (hj : j < 60) (h1 : 1 ≤ many) (h3 : many ≤ 3) (G : GS j S) (hn : S.2.2.2.2.1 = many) (h : LQ b L xs x S w g k s) : ∃ (w' : am_Wd) (S' : sS), GS (j + 1) S' ∧ S'.2.2.2.2.1 = many ∧ LQ b L xs x S' w' g (k + 101) (s + 213) ∧ am_run 270 172 [some (.ref b), some (.ref x), some (.int (nI many)), some (.int (nI j)), none, none, none, none, none, none, none, none] [] w = am_run 270 172 [some (.ref b), some (.ref x), some (.int (nI many)), some (.int (nI (j + 1))), none, none, none, none, none, none, none, none] [] w' := by
  have e60 : (nI 60 ≤ nI j) = (60 ≤ j) := nI_leS (by decide) (by omega)
  have n60 : ¬ 60 ≤ j := by omega
  have r16 : bj_irem (nI j) (nI 16) = nI (j % 16) := nI_remS (by omega) (by decide) (by decide)
  have r16' : bj_irem (nI (7 * j + 3)) (nI 16) = nI ((7 * j + 3) % 16) := nI_remS (by omega) (by decide) (by decide)
  have s1 := lq_s h (j := j % 16) (by omega)
  have s2 := lq_s h (j := (7 * j + 3) % 16) (by omega)
  generalize hX : scr L xs (j % 16) + nI (31 * j) = X
  generalize hY : scr L xs ((7 * j + 3) % 16) + nI (5 * j) = Y
  have hi := blw_lt (v := Y) (m := many) (by omega)
  have b1 := x266 (w := w) (v := Y) (m := many) (by omega) (by omega)
  generalize blw Y many = i at hi b1
  -- to the row
  have gn : g w.2.1 = 0 := h.2.1 _ (Nat.le_refl _)
  have hA := lq_nw (e := .inl (0, 13, am_in 0)) (m := 13) G h
  have cA : cI (am_nw w (.inl (0, 13, am_in 0)) 13) w.2.1 0 13 (fun _ => 0) := nw_s
  have na : am_na w 0 (nI 13) = some (am_nw w (.inl (0, 13, am_in 0)) 13) := nac (by decide)
  have t1 : am_run 270 172 [some (.ref b), some (.ref x), some (.int (nI many)), some (.int (nI j)), none, none, none, none, none, none, none, none] [] w = am_run 270 229 [some (.ref b), some (.ref x), some (.int (nI many)), some (.int (nI j)), some (.int X), some (.int Y), some (.int (nI i)), some (.ref w.2.1), some (.int (nI 0)), none, none, none] [] (am_nw w (.inl (0, 13, am_in 0)) 13) := by
    simp only [bk270_172, e60, n60, bk270_178, r16, s1, bk270_186, nI_mulS, nI_add, r16', s2, bk270_206, hX, hY, b1, bk270_218, na, bk270_224, Option.bind_some, bct_v, bct_t, otl_s, otl_n, List.cons_append, List.nil_append, List.getElem?_cons_zero, List.getElem?_cons_succ, ↓reduceIte]
  have ka0 : w.2.1 < (am_nw w (.inl (0, 13, am_in 0)) 13).2.1 := Nat.lt_succ_self _
  generalize am_nw w (.inl (0, 13, am_in 0)) 13 = wA at hA cA t1 ka0
  generalize w.2.1 = a at cA t1 gn ka0
  obtain ⟨kd, hr, cp, br, n, ws, mi, nd, dr, me, di, re⟩ := S
  obtain rfl : n = many := hn
  obtain ⟨wB, f, hB, zB, cB, fB, t2⟩ := it13 (z2 := nI n) (z3 := nI j) (z4 := X) (z5 := Y) G hi hA gn cA
  rw [t1, t2]
  have ka1 : a < wB.2.1 := by rw [zB]; exact ka0
  clear t1 t2 hA cA zB
  -- the act
  have hB0 := hB
  obtain ⟨⟨fl, ka, ha, wr, C, B, wad, R⟩, hJ, -⟩ := hB0
  obtain ⟨⟨o1, o2, o3, o4, o5, o6, o7⟩, g1, g2, g3, ⟨d, g4, g5⟩, g6⟩ := id G
  have kx := rc_kf R
  have m0 : am_x 136 [.ref x, .int (nI 0)] wB = some (.inl (some (.int (nI mi))), wB) := x136 R o1 o2 o5 (k := 0) (by decide)
  have m8 : am_x 136 [.ref x, .int (nI 8)] wB = some (.inl (some (.int dr)), wB) := x136 R o1 o2 o5 (k := 8) (by decide)
  have hact := blw_lt (v := X) (m := 8) (by decide)
  have ba := x266 (w := wB) (v := X) (m := 8) (by decide) (by decide)
  generalize blw X 8 = act at hact ba
  obtain ⟨c, S', wC, aC, RC', pC, GC, DC⟩ := x268 R hJ G (by omega) hi hact (X / nI 8) Y
  have e6 : (nI act = nI 6) = (act = 6) := nI_eqS (by omega) (by decide)
  have eA : (nI 13 ≤ nI 13) = True := by rw [nI_leS (by decide) (by decide)]; exact eq_true (by decide)
  have t3 : am_run 270 229 [some (.ref b), some (.ref x), some (.int (nI n)), some (.int (nI j)), some (.int X), some (.int Y), some (.int (nI i)), some (.ref a), some (.int (nI 13)), none, none, none] [] wB = am_run 270 317 [some (.ref b), some (.ref x), some (.int (nI n)), some (.int (nI j)), none, none, some (.int (nI i)), some (.ref a), some (.int (nI mi)), some (.int dr), some (.int (b2i (decide (act = 6)))), none] [.int (b2i c)] wC := by
    cases c with
    | true =>
      rw [b2i_t] at aC
      by_cases q : act = 6
      · rw [decide_eq_true q]
        simp only [bk270_229, eA, bk270_255, kx, m0, bk270_260, m8, bk270_268, ba, bk270_277, e6, q, not_true_eq_false, bk270_282, bk270_287, bk270_299, b2i_t, show am_x 268 [.ref x, .int (nI i), .int (nI 6), .int (X / nI 8), .int Y] wB = some (.inl (some (.int (nI 1))), wC) from by rw [← q]; exact aC, bk270_309, nI_lit, bk270_312, Option.bind_some, bct_v, bct_t, otl_s, otl_n, List.cons_append, List.nil_append, List.getElem?_cons_zero, List.getElem?_cons_succ, ↓reduceIte]
      · rw [decide_eq_false q]
        simp only [bk270_229, eA, bk270_255, kx, m0, bk270_260, m8, bk270_268, ba, bk270_277, e6, q, not_false_eq_true, bk270_286, bk270_287, bk270_299, b2i_t, b2i_f, aC, bk270_309, nI_lit, bk270_312, Option.bind_some, bct_v, bct_t, otl_s, otl_n, List.cons_append, List.nil_append, List.getElem?_cons_zero, List.getElem?_cons_succ, ↓reduceIte]
    | false =>
      rw [b2i_f] at aC
      by_cases q : act = 6
      · rw [decide_eq_true q]
        simp only [bk270_229, eA, bk270_255, kx, m0, bk270_260, m8, bk270_268, ba, bk270_277, e6, q, not_true_eq_false, bk270_282, bk270_287, bk270_299, b2i_t, b2i_f, show am_x 268 [.ref x, .int (nI i), .int (nI 6), .int (X / nI 8), .int Y] wB = some (.inl (some (.int (nI 0))), wC) from by rw [← q]; exact aC, bk270_309, bk270_316, Option.bind_some, bct_v, bct_t, otl_s, otl_n, List.cons_append, List.nil_append, List.getElem?_cons_zero, List.getElem?_cons_succ, ↓reduceIte]
      · rw [decide_eq_false q]
        simp only [bk270_229, eA, bk270_255, kx, m0, bk270_260, m8, bk270_268, ba, bk270_277, e6, q, not_false_eq_true, bk270_286, bk270_287, bk270_299, b2i_f, aC, bk270_309, bk270_316, Option.bind_some, bct_v, bct_t, otl_s, otl_n, List.cons_append, List.nil_append, List.getElem?_cons_zero, List.getElem?_cons_succ, ↓reduceIte]
  rw [t3]
  clear t3 m0 m8 kx
  have cC : cI wC a 0 13 f := cI_of cB (pC.1 a ka1 (Or.inl (by omega)))
  have hC := lq_stp hB RC' pC
  -- what is asked then
  obtain ⟨kd', hr', cp', br', n', ws', mi', nd', dr', me', di', re'⟩ := S'
  obtain ⟨rfl, rfl, rfl, d1, d2, d3, d4, d5⟩ := DC
  have hC0 := hC
  obtain ⟨⟨fl, ka, ha, wr, C, B, wad, R⟩, -⟩ := hC0
  obtain ⟨⟨o1', o2', o3', o4', o5', o6', o7'⟩, g1', g2', g3', ⟨d', g4', g5'⟩, g6'⟩ := id GC
  have kx := rc_kf R
  have m0 : am_x 136 [.ref x, .int (nI 0)] wC = some (.inl (some (.int (nI mi'))), wC) := x136 R o1' o2' o5' (k := 0) (by decide)
  have m8 : am_x 136 [.ref x, .int (nI 8)] wC = some (.inl (some (.int dr')), wC) := x136 R o1' o2' o5' (k := 8) (by decide)
  have A : ∀ q, q ≤ 12 → am_x 201 [.ref x, .int (nI i), .int (nI q)] wC = some (.inl (some (.int (ofwS kd' hr' mi' (ws' i) q))), wC) := fun q hq => x201 R o4' o1' o2' o5' hi (sW_eta (ws' i)) (o7' i hi).1.2.2.2.1 hq
  have a2 : am_x 201 [.ref x, .int (nI i), .int (nI 2)] wC = some (.inl (some (.int (figS (ws' i) 2))), wC) := A 2 (by decide)
  have a5 : am_x 201 [.ref x, .int (nI i), .int (nI 5)] wC = some (.inl (some (.int (figS (ws' i) 5))), wC) := A 5 (by decide)
  have a6 : am_x 201 [.ref x, .int (nI i), .int (nI 6)] wC = some (.inl (some (.int (figS (ws' i) 6))), wC) := A 6 (by decide)
  have a10 : am_x 201 [.ref x, .int (nI i), .int (nI 10)] wC = some (.inl (some (.int (figS (ws' i) 10))), wC) := A 10 (by decide)
  have F : ∀ q, q < 13 → am_ri 0 wC a (nI q) = some (ofwS kd' hr' mi (ws i) q) := fun q hq => by rw [ric cC rfl hq (by decide), fB q hq]
  have f2 : am_ri 0 wC a (nI 2) = some (figS (ws i) 2) := F 2 (by decide)
  have f5 : am_ri 0 wC a (nI 5) = some (figS (ws i) 5) := F 5 (by decide)
  have f6 : am_ri 0 wC a (nI 6) = some (figS (ws i) 6) := F 6 (by decide)
  have f10 : am_ri 0 wC a (nI 10) = some (figS (ws i) 10) := F 10 (by decide)
  have q56 : figS (ws i) 5 + figS (ws i) 6 = nI (knn (ws i).2.2.2.2.2.2.2.2) := fig56 (o7 i hi)
  have q56' : figS (ws' i) 5 + figS (ws' i) 6 = nI (knn (ws' i).2.2.2.2.2.2.2.2) := fig56 (o7' i hi)
  have k1 := knn_le (ws i).2.2.2.2.2.2.2.2
  have k2 := knn_le (ws' i).2.2.2.2.2.2.2.2
  have lt : (nI (knn (ws' i).2.2.2.2.2.2.2.2) < nI (knn (ws i).2.2.2.2.2.2.2.2)) = False := by rw [nI_ltS (by omega) (by omega)]; exact eq_false (by omega)
  have wl := x269 R GC (by omega) hi
  refine ⟨wC, _, GC, rfl, lq_wk hC (by omega) (by omega), ?_⟩
  have t4 : am_run 270 317 [some (.ref b), some (.ref x), some (.int (nI n')), some (.int (nI j)), none, none, some (.int (nI i)), some (.ref a), some (.int (nI mi)), some (.int dr), some (.int (b2i (decide (act = 6)))), none] [.int (b2i c)] wC = am_run 270 386 [some (.ref b), some (.ref x), some (.int (nI n')), some (.int (nI j)), none, none, some (.int (nI i)), some (.ref a), none, none, none, none] [] wC := by
    have u : am_run 270 317 [some (.ref b), some (.ref x), some (.int (nI n')), some (.int (nI j)), none, none, some (.int (nI i)), some (.ref a), some (.int (nI mi)), some (.int dr), some (.int (b2i (decide (act = 6)))), none] [.int (b2i c)] wC = am_run 270 366 [some (.ref b), some (.ref x), some (.int (nI n')), some (.int (nI j)), none, none, some (.int (nI i)), some (.ref a), some (.int (nI mi)), none, some (.int (b2i (decide (act = 6)))), some (.int (b2i c))] [] wC := by
      simp only [bk270_317, kx, m8, bk270_325, d4, bk270_330, a10, bk270_338, f10, bk270_343, d1, not_true_eq_false, bk270_349, a2, bk270_356, f2, bk270_360, d2, Option.bind_some, bct_v, bct_t, otl_s, otl_n, List.cons_append, List.nil_append, List.getElem?_cons_zero, List.getElem?_cons_succ, ↓reduceIte]
    rw [u, bk270_366]
    by_cases q : act = 6
    · rw [decide_eq_true q, b2i_t, if_pos (by rw [nI_lit]; exact not_false)]
    · rw [decide_eq_false q, b2i_f, if_neg (by simp)]
      have d3' := d3.resolve_left q
      simp only [bk270_371, kx, m0, bk270_376, d3', Option.bind_some, bct_v, bct_t, otl_s, otl_n, List.cons_append, List.nil_append, List.getElem?_cons_zero, List.getElem?_cons_succ, ↓reduceIte]
  rw [t4]
  simp only [bk270_386, kx, a5, bk270_393, a6, bk270_401, f5, bk270_406, f6, bk270_411, q56, q56', lt, bk270_415, wl, bk270_421, nI_lit, not_false_eq_true, bk270_426, nI_add, Option.bind_some, bct_v, bct_t, otl_s, otl_n, List.cons_append, List.nil_append, List.getElem?_cons_zero, List.getElem?_cons_succ, ↓reduceIte]
theorem wrs3_le (may : Nat → Bool) (mp : Nat → Nat) : wrsW may mp 3 ≤ 144 := by
  unfold wrsW
  rw [if_neg (by decide), if_pos rfl]
  exact wrsL_le may mp 8
/-- what is asked at the end -/
theorem fin3 (G : GS 60 S) (hn : 1 ≤ S.2.2.2.2.1) (h : LQ b L xs x S w g k s) : ∃ w', am_run 270 432 [none, some (.ref x), none, none, none, none, none, none, none, none, none, none] [] w = some (.inl (some (.int (nI 1))), w') ∧ w'.2.1 ≤ k ∧ w'.2.2.1 ≤ s := by
  obtain ⟨kd, hr, cp, br, n, ws, mi, nd, dr, me, di, re⟩ := S
  have hn : 0 < n := hn
  obtain ⟨⟨fl, ka, ha, wr, C, B, wad, R⟩, -, -, -, hk, hs⟩ := h
  obtain ⟨⟨o1, o2, o3, o4, o5, o6, o7⟩, g1, g2, g3, g4, g5⟩ := id G
  have kx := rc_kf R
  have hw := g2 0 hn
  have z := wrs3_1 hw
  have D := x250 R o4 o1 o2 o5 fun j hj => (o7 j hj).1
  have W : am_x 140 [.ref x, .int (nI 0), .int (nI 0), .int (nI 35)] w = _ := x140 R o4 hn (sW_eta (ws 0)) (f := 0) (t := 35) (by decide) (by decide)
  have V := x202 R o4 hn (sW_eta (ws 0)) (k := 3) (by decide)
  have nm1 : (no (wayS (ws 0).2.2.2.2.2.2.2.2 0 35) < (-1 : Int32)) = False := by
    refine eq_false ?_
    cases e : wayS (ws 0).2.2.2.2.2.2.2.2 0 35 with
    | none => exact Int32.lt_irrefl
    | some q =>
      have := (fst1_some e).1
      exact fun z => nI_pos (show q < 2 ^ 31 by omega) (Int32.lt_trans z (by decide))
  have z1 : (nI (wrsW (ws 0).2.2.2.2.2.2.2.1 (ws 0).2.2.2.2.2.2.2.2 3) < nI 1) = False := by
    rw [nI_ltS (by have := wrs3_le (ws 0).2.2.2.2.2.2.2.1 (ws 0).2.2.2.2.2.2.2.2; omega) (by decide)]
    exact eq_false (by omega)
  obtain ⟨w', a, R', f⟩ := x24 R
  have a : am_x 24 [.ref x] w = some (.inl (some (.int (nI 1))), w') := by
    have g5 : re = nI 0 := g5
    rw [g5, nI_add] at a
    exact a
  refine ⟨w', ?_, by rw [f.2]; exact hk, by rw [f.2]; exact hs⟩
  have lc : ∀ v : Int64, lg_cmp v v = nI 0 := fun v => by
    unfold lg_cmp
    rw [if_neg Int64.lt_irrefl, if_pos rfl]
    rfl
  simp only [bk270_432, kx, D, bk270_436, W, bk270_445, nm1, bk270_449, V, bk270_455, z1, bk270_459, bk270_463, lc, not_true_eq_false, bk270_468, a, bk270_472, bk270_476, bk270_481 (s0 := nI 1) (by decide), Option.bind_some, bct_v, bct_t, otl_s, otl_n, List.cons_append, List.nil_append, List.getElem?_cons_zero, List.getElem?_cons_succ, ↓reduceIte]
end LP3
