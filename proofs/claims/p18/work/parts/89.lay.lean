/-! THE REFERENCE'S CALLS: lay. Mine. -/
section CE
variable {w : am_Wd} {g : Nat → Nat} {m kq hq ca ba wl ed : Nat} {wad : Nat → Nat} {kd hr : Nat → Nat} {cp br : Nat → Bool} {n : Nat} {ws : Nat → sW} {th mi nd : Nat} {dr me di re : Int32}
variable {i a ho po ch : Nat} {lo ac bu sl : Int32} {may : Nat → Bool} {mp : Nat → Nat}
theorem plc_1 {c s d : Nat} (hs : s = 1 ∨ s = 2) (h : nb c s = some d) : plc c s = 2 * c + (s - 1) := by
  rw [plc_at h]
  rcases hs with rfl | rfl <;> rfl
theorem it206 (R : RMx w g m kq hq ca ba wl ed wad kd hr cp br n ws th mi nd dr me di re) (hn : n ≤ 3) {c j z : Nat} (hc : c < 36) (hj : j < 2) (hz : z < 127) :
    ∃ w', am_run 206 38 [some (.ref m), none, some (.int (nI z)), some (.int (nI c)), some (.int (nI j))] [] w = am_run 206 38 [some (.ref m), none, some (.int (nI (lay1 c (j + 1) (z, kd, hr)).1)), some (.int (nI c)), some (.int (nI (j + 1)))] [] w' ∧ RMx w' g m kq hq ca ba wl ed wad (lay1 c (j + 1) (z, kd, hr)).2.1 (lay1 c (j + 1) (z, kd, hr)).2.2 cp br n ws th mi nd dr me di re ∧ frm g 200 336 w w' := by
  have y := x143 (w := w) hc hj
  unfold lay1
  rw [bk206_38, if_neg (by rw [nI_leS (by decide) (by omega)]; omega)]
  cases e : nb c (j + 1) with
  | none =>
    rw [e] at y
    have y' : am_x 143 [.int (nI c), .int (nI j)] w = some (.inl (some (.int (nI 0))), w) := y
    refine ⟨w, ?_, R, frm_rf⟩
    rw [if_pos rfl]
    simp only [bk206_44, y', bk206_50, not_true_eq_false, bk206_53, bk206_97, nI_add, Option.bind_some, bct_v, bct_t, otl_s, otl_n, List.cons_append, List.nil_append, List.getElem?_cons_zero, List.getElem?_cons_succ, ↓reduceIte]
  | some d =>
    rw [e] at y
    have y' : am_x 143 [.int (nI c), .int (nI j)] w = some (.inl (some (.int (nI 1))), w) := y
    have ep : plc c (j + 1) = 2 * c + j := plc_1 (by omega) e
    rw [if_neg (fun q => nomatch q), ep]
    obtain ⟨w1, a1, R1, f1⟩ := rm_kd R hn hc hj (v := if 40 ≤ (29 * z + 13) % 127 then 0 else 1)
    obtain ⟨w2, a2, R2, f2⟩ := rm_hr R1 hn hc hj (v := 0)
    have p0 := R.2.1.row hc
    have p1 := R1.2.2.1.row hc
    have ez : bj_irem (nI 29 * nI z + nI 13) (nI 127) = nI ((29 * z + 13) % 127) := by rw [nI_mulS, nI_add, nI_remS (by omega) (by decide) (by decide)]
    have el : (nI 40 ≤ nI ((29 * z + 13) % 127)) = (40 ≤ (29 * z + 13) % 127) := nI_leS (by decide) (by omega)
    refine ⟨w2, ?_, R2, frm_tr (frm_wk f1 (by decide) (by decide)) (frm_wk f2 (by decide) (by decide))⟩
    by_cases q : 40 ≤ (29 * z + 13) % 127
    · rw [if_pos q] at a1
      simp only [bk206_44, y', bk206_50, nI_eqS (show 1 < 2147483648 by decide) (show 0 < 2147483648 by decide), show ¬ 1 = 0 from by decide, not_false_eq_true, bk206_56, gfc R.1, oM_0, oM_1, oM_2, oM_3, oM_4, oM_5, oM_6, oM_7, oM_8, oM_9, oM_10, oM_11, ez, bk206_71, p0, bk206_73, el, q, bk206_85, bk206_86, a1, bk206_87, gfc R1.1, bk206_91, p1, bk206_93, a2, bk206_97, nI_add, Option.bind_some, bct_v, bct_t, otl_s, otl_n, List.cons_append, List.nil_append, List.getElem?_cons_zero, List.getElem?_cons_succ, ↓reduceIte]
    · rw [if_neg q] at a1
      simp only [bk206_44, y', bk206_50, nI_eqS (show 1 < 2147483648 by decide) (show 0 < 2147483648 by decide), show ¬ 1 = 0 from by decide, not_false_eq_true, bk206_56, gfc R.1, oM_0, oM_1, oM_2, oM_3, oM_4, oM_5, oM_6, oM_7, oM_8, oM_9, oM_10, oM_11, ez, bk206_71, p0, bk206_73, el, q, bk206_81, bk206_86, a1, bk206_87, gfc R1.1, bk206_91, p1, bk206_93, a2, bk206_97, nI_add, Option.bind_some, bct_v, bct_t, otl_s, otl_n, List.cons_append, List.nil_append, List.getElem?_cons_zero, List.getElem?_cons_succ, ↓reduceIte]
theorem cell206 (R : RMx w g m kq hq ca ba wl ed wad kd hr cp br n ws th mi nd dr me di re) (hn : n ≤ 3) {c z : Nat} (hc : c < 36) (hz : z < 127) :
    ∃ w', am_run 206 29 [some (.ref m), none, some (.int (nI z)), some (.int (nI c)), none] [] w = am_run 206 29 [some (.ref m), none, some (.int (nI (lay1 c 2 (lay1 c 1 (z, kd, hr))).1)), some (.int (nI (c + 1))), none] [] w' ∧ RMx w' g m kq hq ca ba wl ed wad (lay1 c 2 (lay1 c 1 (z, kd, hr))).2.1 (lay1 c 2 (lay1 c 1 (z, kd, hr))).2.2 cp br n ws th mi nd dr me di re ∧ frm g 200 336 w w' := by
  obtain ⟨w1, e1, R1, f1⟩ := it206 R hn (j := 0) hc (by decide) hz
  have hz1 : (lay1 c 1 (z, kd, hr)).1 < 127 := lay1_lt hz
  obtain ⟨w2, e2, R2, f2⟩ := it206 R1 hn (j := 1) hc (by decide) hz1
  refine ⟨w2, ?_, R2, frm_tr f1 f2⟩
  rw [bk206_29, if_neg (by rw [nI_leS (by decide) (by omega)]; omega), bk206_35]
  refine Eq.trans e1 (Eq.trans e2 ?_)
  rw [bk206_38, if_pos (by rw [nI_leS (by decide) (by decide)]; decide), bk206_103, nI_add]
theorem loop206 (R : RMx w g m kq hq ca ba wl ed wad kd hr cp br n ws th mi nd dr me di re) (hn : n ≤ 3) {s : Nat} (hs : s < 127) : ∀ c, c ≤ 36 →
    ∃ w', am_run 206 29 [some (.ref m), none, some (.int (nI s)), some (.int (nI 0)), none] [] w = am_run 206 29 [some (.ref m), none, some (.int (nI (layN c (s, kd, hr)).1)), some (.int (nI c)), none] [] w' ∧ RMx w' g m kq hq ca ba wl ed wad (layN c (s, kd, hr)).2.1 (layN c (s, kd, hr)).2.2 cp br n ws th mi nd dr me di re ∧ frm g 200 336 w w' := by
  intro c
  induction c with
  | zero => exact fun _ => ⟨w, rfl, R, frm_rf⟩
  | succ c ih =>
    intro hc
    obtain ⟨w1, e1, R1, f1⟩ := ih (by omega)
    obtain ⟨w2, e2, R2, f2⟩ := cell206 R1 hn (c := c) (by omega) (layN_lt (z := (s, kd, hr)) hs c)
    exact ⟨w2, e1.trans e2, R2, frm_tr f1 f2⟩
theorem lay1_ok {c s : Nat} {z : sLay} (h : kdok z.2.1) : kdok (lay1 c s z).2.1 := by
  unfold lay1
  split
  · exact h
  · intro k
    show up z.2.1 (plc c s) _ k ≤ 2
    unfold up
    split
    · split <;> decide
    · exact h k
theorem layN_ok {z : sLay} (h : kdok z.2.1) : ∀ c, kdok (layN c z).2.1
  | 0 => h
  | c + 1 => lay1_ok (lay1_ok (layN_ok h c))
theorem y206 (R : RMx w g m kq hq ca ba wl ed wad kd hr cp br n ws th mi nd dr me di re) (hn : n ≤ 3) (hJ : gJ w g) (hk : kdok kd) {s : Nat} (hs : s ≤ 126) : ∃ w', am_x 206 [.ref m, .int (nI s)] w = some (.inl (some (.int (nI (cnt 72 (fun k => wiP k && (layN 36 (s, kd, hr)).2.1 k == 1))))), w') ∧ RM w' g m (layN 36 (s, kd, hr)).2.1 (layN 36 (s, kd, hr)).2.2 cp br n ws 0 mi nd dr me di re ∧ stp 100 800 g g 0 0 w w' := by
  have z := x39g (w := w) (z := nI s) (a := nI 0) (b := nI 126)
  rw [ok_rng (by decide) (Nat.zero_le s) hs] at z
  obtain ⟨w1, a1, R1, f1⟩ := x96 R hn false (c := 1) (by decide)
  have a1' : am_x 96 [.ref m, .int (nI 0), .int (nI 1)] w = _ := a1
  obtain ⟨w2, e2, R2, f2⟩ := loop206 R1 hn (s := s) (by omega) 36 (Nat.le_refl 36)
  have zk := x177 R2 (layN_ok (z := (s, kd, hr)) hk 36) (q := 1) (by decide)
  refine ⟨w2, ?_, ⟨_, _, _, _, _, _, _, R2⟩, stp_frm hJ (frm_tr (frm_wk f1 (show 100 ≤ 100 by decide) (show 101 ≤ 336 by decide)) (frm_wk f2 (by decide) (by decide))) (Nat.le_refl 100) (show 336 ≤ 800 by decide)⟩
  have st : am_x 206 [.ref m, .int (nI s)] w = am_run 206 29 [some (.ref m), none, some (.int (nI s)), some (.int (nI 0)), none] [] w1 := by
    simp only [bx206, bk206_0, z, bk206_8, b2i_0, reduceCtorEq, not_false_eq_true, bk206_15, bk206_16, rm_kf R, a1', bk206_20, bk206_25, Option.bind_some, bct_v, bct_t, otl_s, otl_n, List.cons_append, List.nil_append, List.getElem?_cons_zero, List.getElem?_cons_succ, ↓reduceIte]
  rw [st, e2, bk206_29, if_pos (by rw [nI_leS (by decide) (by decide)]; decide)]
  simp only [bk206_109, rm_kf R2, zk, bk206_114, Option.bind_some, bct_v, bct_t, otl_s, otl_n, List.cons_append, List.nil_append, List.getElem?_cons_zero, List.getElem?_cons_succ, ↓reduceIte]
theorem y206n (R : RMx w g m kq hq ca ba wl ed wad kd hr cp br n ws th mi nd dr me di re) (hn : n ≤ 3) (hJ : gJ w g) {z : Int32} (hz : z < nI 0 ∨ nI 126 < z) : ∃ w', am_x 206 [.ref m, .int z] w = some (.inl (some (.int (nI 0))), w') ∧ RM w' g m kd hr cp br n ws 1 mi nd dr me di re ∧ stp 100 800 g g 0 0 w w' := by
  have z1 := x39g (w := w) (z := z) (a := nI 0) (b := nI 126)
  rw [ng_rng hz] at z1
  obtain ⟨w1, a1, R1, f1⟩ := x96 R hn true (c := 1) (by decide)
  have a1' : am_x 96 [.ref m, .int (nI 1), .int (nI 1)] w = _ := a1
  refine ⟨w1, ?_, ⟨_, _, _, _, _, _, _, R1⟩, stp_frm hJ f1 (by decide) (by decide)⟩
  simp only [bx206, bk206_0, z1, bk206_8, b2i_0, not_true_eq_false, bk206_11, bk206_16, rm_kf R, a1', bk206_20, reduceCtorEq, bk206_23, Option.bind_some, bct_v, bct_t, otl_s, otl_n, List.cons_append, List.nil_append, List.getElem?_cons_zero, List.getElem?_cons_succ, ↓reduceIte]
end CE
