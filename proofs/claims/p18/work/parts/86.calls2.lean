/-! THE REFERENCE'S CALLS: charge, tellPose, edge. Mine. -/
section CB
variable {w : am_Wd} {g : Nat → Nat} {m kq hq ca ba wl ed : Nat} {wad : Nat → Nat} {kd hr : Nat → Nat} {cp br : Nat → Bool} {n : Nat} {ws : Nat → sW} {th mi nd : Nat} {dr me di re : Int32}
variable {i a ho po ch : Nat} {lo ac bu sl : Int32} {may : Nat → Bool} {mp : Nat → Nat}
theorem rm_L (R : RMx w g m kq hq ca ba wl ed wad kd hr cp br n ws th mi nd dr me di re) : Lst w g wl ed n wad := R.2.2.2.2.2.1
theorem rm_lk (R : RMx w g m kq hq ca ba wl ed wad kd hr cp br n ws th mi nd dr me di re) : am_kf w wl 3 = some () := kfc (rm_L R).1
/-- charge -/
theorem y178 (R : RMx w g m kq hq ca ba wl ed wad kd hr cp br n ws th mi nd dr me di re) (hn : n ≤ 3) (hJ : gJ w g) (hi : i < n) (hy : ws i = (ho, po, ch, lo, ac, bu, sl, may, mp)) (hp : po < 144) (hho : ho < 36) {c : Nat} (h1c : 1 ≤ c) (hc5 : c ≤ 500) (he : po / 4 = ho) :
    ∃ w', am_x 178 [.ref m, .int (nI i), .int (nI c)] w = some (.inl (some (.int (nI ch))), w') ∧ RM w' g m kd hr cp br n (up ws i (chgY c (ws i))) 0 mi nd dr me di re ∧ stp 100 800 g g 0 0 w w' := by
  have z1 := x99 R (nI i)
  rw [nwk_f hn hi] at z1
  have z2 := fun w => x39g (w := w) (z := nI c) (a := nI 1) (b := nI 500)
  rw [ok_rng (by decide) h1c hc5] at z2
  obtain ⟨w1, a1, R1, f1⟩ := x96 R hn false (c := 1) (by decide)
  obtain ⟨w2, a2, R2, f2⟩ := x40 R1 hn false (c := 2) (by decide)
  obtain ⟨w3, a3, R3, f3⟩ := x40 R2 hn false (c := 3) (by decide)
  have a2' : am_x 40 [.ref m, .int (nI 0), .int (nI 2)] w1 = _ := a2
  have a3' : am_x 40 [.ref m, .int (nI 0), .int (nI 3)] w2 = _ := a3
  have h2 := rm_get R2 hi hy
  have h3 := rm_get R3 hi hy
  have kf2 := mk_kf h2
  have kf3 := mk_kf h3
  obtain ⟨ma, mq, c2, -⟩ := h2
  obtain ⟨ma', mq', c3, d2, d3, g1, g2, g3⟩ := h3
  have pf : am_pf w3 (wad i) 10 2 (.int (nI c)) = some (am_pt w3 (wad i) (.inr (10, oK po ho c ma' mq' lo ac bu sl))) := pfc c3 (by show 2 < 9; decide) (by decide)
  obtain ⟨k1, k2⟩ := Mkv_fld (ho' := ho) (po' := po) (ch' := c) (lo' := lo) (ac' := ac) (bu' := bu) (sl' := sl) d2 d3 (by omega) g1 g2 g3
  have R4 := rm_wk2 R3 hn hi k1 (frm_wk k2 (by omega) (by omega))
  have v2 := x150 (rm_L R2) hn hi
  have v3 := x150 (rm_L R3) hn hi
  have e : ws i = (po / 4, po, ch, lo, ac, bu, sl, may, mp) := by rw [he]; exact hy
  refine ⟨_, ?_, ⟨_, _, _, _, _, _, _, by rw [hy]; exact R4⟩, stp_frm hJ (frm_tr (frm_wk f1 (show 100 ≤ 100 by decide) (show 101 ≤ 141 by decide)) (frm_tr (frm_wk f2 (by decide) (by decide)) (frm_tr (frm_wk f3 (by decide) (by decide)) (frm_wk k2 (by omega) (by omega))))) (Nat.le_refl 100) (show 141 ≤ 800 by decide)⟩
  simp only [bk178_0, bk178_6, bk178_10, bk178_81, bk178_13, bk178_22, bk178_29, bk178_25, bk178_30, bk178_34, bk178_37, bk178_42, bk178_46, bk178_49, bk178_52, bk178_56, bk178_60, bk178_63, bk178_66, bk178_73, bk178_69, bk178_74, bk178_78, bk178_83, bk178_87, bk178_91, bk178_94, bk178_97, bk178_102, bk178_106, bk178_109, bk178_113, bx178, rm_kf R, z1, a1, b2i_0, not_true_eq_false, z2, reduceCtorEq, not_false_eq_true, rm_kf R1, a2', gfc R2.1, oM_0, oM_1, oM_2, oM_3, oM_4, oM_5, oM_6, oM_7, oM_8, oM_9, oM_10, oM_11, rm_lk R2, v2, kf2, x38 c2 hp, gfc c2, oK_0, oK_1, oK_2, oK_3, oK_4, oK_5, oK_6, oK_7, oK_8, he, rm_kf R2, a3', gfc R3.1, rm_lk R3, v3, kf3, gfc c3, pf, Option.bind_some, bct_v, bct_t, otl_s, otl_n, List.cons_append, List.nil_append, List.getElem?_cons_zero, List.getElem?_cons_succ, ↓reduceIte]
theorem y178h (R : RMx w g m kq hq ca ba wl ed wad kd hr cp br n ws th mi nd dr me di re) (hn : n ≤ 3) (hJ : gJ w g) (hi : i < n) (hy : ws i = (ho, po, ch, lo, ac, bu, sl, may, mp)) (hp : po < 144) (hho : ho < 36) {c : Nat} (h1c : 1 ≤ c) (hc5 : c ≤ 500) (he : ¬ po / 4 = ho) :
    ∃ w', am_x 178 [.ref m, .int (nI i), .int (nI c)] w = some (.inl (some (.int (nI 0))), w') ∧ RM w' g m kd hr cp br n ws 3 mi nd dr me di re ∧ stp 100 800 g g 0 0 w w' := by
  have z1 := x99 R (nI i)
  rw [nwk_f hn hi] at z1
  have z2 := fun w => x39g (w := w) (z := nI c) (a := nI 1) (b := nI 500)
  rw [ok_rng (by decide) h1c hc5] at z2
  obtain ⟨w1, a1, R1, f1⟩ := x96 R hn false (c := 1) (by decide)
  obtain ⟨w2, a2, R2, f2⟩ := x40 R1 hn false (c := 2) (by decide)
  obtain ⟨w3, a3, R3, f3⟩ := x40 R2 hn true (c := 3) (by decide)
  have a2' : am_x 40 [.ref m, .int (nI 0), .int (nI 2)] w1 = _ := a2
  have a3' : am_x 40 [.ref m, .int (nI 1), .int (nI 3)] w2 = _ := a3
  have h2 := rm_get R2 hi hy
  have kf2 := mk_kf h2
  obtain ⟨ma, mq, c2, -⟩ := h2
  have v2 := x150 (rm_L R2) hn hi
  have e0 : (nI (po / 4) = nI ho) = (po / 4 = ho) := nI_eqS (by omega) (by omega)
  refine ⟨w3, ?_, ⟨_, _, _, _, _, _, _, R3⟩, stp_frm hJ (frm_tr f1 (frm_tr f2 f3)) (by decide) (by decide)⟩
  simp only [bk178_0, bk178_6, bk178_10, bk178_81, bk178_13, bk178_22, bk178_29, bk178_25, bk178_30, bk178_34, bk178_37, bk178_42, bk178_46, bk178_49, bk178_52, bk178_56, bk178_60, bk178_63, bk178_66, bk178_73, bk178_69, bk178_74, bk178_78, bk178_83, bk178_87, bk178_91, bk178_94, bk178_97, bk178_102, bk178_106, bk178_109, bk178_113, bx178, rm_kf R, z1, a1, b2i_0, not_true_eq_false, z2, reduceCtorEq, not_false_eq_true, rm_kf R1, a2', gfc R2.1, oM_0, oM_1, oM_2, oM_3, oM_4, oM_5, oM_6, oM_7, oM_8, oM_9, oM_10, oM_11, rm_lk R2, v2, kf2, x38 c2 hp, gfc c2, oK_0, oK_1, oK_2, oK_3, oK_4, oK_5, oK_6, oK_7, oK_8, e0, he, rm_kf R2, a3', Option.bind_some, bct_v, bct_t, otl_s, otl_n, List.cons_append, List.nil_append, List.getElem?_cons_zero, List.getElem?_cons_succ, ↓reduceIte]
theorem y178c (R : RMx w g m kq hq ca ba wl ed wad kd hr cp br n ws th mi nd dr me di re) (hn : n ≤ 3) (hJ : gJ w g) (hi : i < n) {z : Int32} (hz : z < nI 1 ∨ nI 500 < z) : ∃ w', am_x 178 [.ref m, .int (nI i), .int z] w = some (.inl (some (.int (nI 0))), w') ∧ RM w' g m kd hr cp br n ws 2 mi nd dr me di re ∧ stp 100 800 g g 0 0 w w' := by
  have z1 := x99 R (nI i)
  rw [nwk_f hn hi] at z1
  have z2 := fun w => x39g (w := w) (z := z) (a := nI 1) (b := nI 500)
  rw [ng_rng hz] at z2
  obtain ⟨w1, a1, R1, f1⟩ := x96 R hn false (c := 1) (by decide)
  obtain ⟨w2, a2, R2, f2⟩ := x40 R1 hn true (c := 2) (by decide)
  have a2' : am_x 40 [.ref m, .int (nI 1), .int (nI 2)] w1 = _ := a2
  refine ⟨w2, ?_, ⟨_, _, _, _, _, _, _, R2⟩, stp_frm hJ (frm_tr f1 f2) (by decide) (by decide)⟩
  simp only [bk178_0, bk178_6, bk178_10, bk178_81, bk178_13, bk178_22, bk178_29, bk178_25, bk178_30, bk178_34, bk178_37, bk178_42, bk178_46, bk178_49, bk178_52, bk178_56, bk178_60, bk178_63, bk178_66, bk178_73, bk178_69, bk178_74, bk178_78, bk178_83, bk178_87, bk178_91, bk178_94, bk178_97, bk178_102, bk178_106, bk178_109, bk178_113, bx178, rm_kf R, z1, a1, b2i_0, not_true_eq_false, z2, reduceCtorEq, not_false_eq_true, rm_kf R1, a2', Option.bind_some, bct_v, bct_t, otl_s, otl_n, List.cons_append, List.nil_append, List.getElem?_cons_zero, List.getElem?_cons_succ, ↓reduceIte]
theorem y178n (R : RMx w g m kq hq ca ba wl ed wad kd hr cp br n ws th mi nd dr me di re) (hn : n ≤ 3) (hJ : gJ w g) {z z2 : Int32} (hz : z < nI 0 ∨ nI n ≤ z) : ∃ w', am_x 178 [.ref m, .int z, .int z2] w = some (.inl (some (.int (nI 0))), w') ∧ RM w' g m kd hr cp br n ws 1 mi nd dr me di re ∧ stp 100 800 g g 0 0 w w' := by
  have z1 := x99 R z
  rw [nwk_t hn hz] at z1
  obtain ⟨w1, a1, R1, f1⟩ := x96 R hn true (c := 1) (by decide)
  refine ⟨w1, ?_, ⟨_, _, _, _, _, _, _, R1⟩, stp_frm hJ f1 (by decide) (by decide)⟩
  simp only [bk178_0, bk178_6, bk178_10, bk178_81, bk178_13, bk178_22, bk178_29, bk178_25, bk178_30, bk178_34, bk178_37, bk178_42, bk178_46, bk178_49, bk178_52, bk178_56, bk178_60, bk178_63, bk178_66, bk178_73, bk178_69, bk178_74, bk178_78, bk178_83, bk178_87, bk178_91, bk178_94, bk178_97, bk178_102, bk178_106, bk178_109, bk178_113, bx178, rm_kf R, z1, a1, b2i_0, reduceCtorEq, not_false_eq_true, Option.bind_some, bct_v, bct_t, otl_s, otl_n, List.cons_append, List.nil_append, List.getElem?_cons_zero, List.getElem?_cons_succ, ↓reduceIte]
end CB
