/-! THE REFERENCE'S CALLS: what is asked of it. Laid by wip/gen/asks.py. Mine. -/
theorem one_0 : (nI 1 = nI 0) = False := eq_false (by decide)
section CO
variable {w : am_Wd} {g : Nat → Nat} {m kq hq ca ba wl ed : Nat} {wad : Nat → Nat} {kd hr : Nat → Nat} {cp br : Nat → Bool} {n : Nat} {ws : Nat → sW} {th mi nd : Nat} {dr me di re : Int32}
variable {i a ho po ch : Nat} {lo ac bu sl : Int32} {may : Nat → Bool} {mp : Nat → Nat}

theorem y182 (R : RMx w g m kq hq ca ba wl ed wad kd hr cp br n ws th mi nd dr me di re) (hn : n ≤ 3) (hJ : gJ w g) {i : Nat} (hi : i < n) (hy : ws i = (ho, po, ch, lo, ac, bu, sl, may, mp)) {c1 : Nat} (hc1 : c1 ≤ 12) (hk : kdok kd) (hh : hrok hr) (hm : mi ≤ 3000) (hp : mpo mp) : ∃ w', am_x 182 [.ref m, .int (nI i), .int (nI c1)] w = some (.inl (some (.int (ofwR kd hr (mi / 60 % 24) (ws i) c1))), w') ∧ RM w' g m kd hr cp br n ws 0 mi nd dr me di re ∧ stp 100 800 g g 1 13 w w' := by
  have zW := x99 R (nI i)
  rw [nwk_f hn hi] at zW
  have y1 := fun w => x39 (w := w) (a := 0) (b := 12) (j := c1) (by decide) (Nat.zero_le c1) hc1
  obtain ⟨w1, a1, R1, f1⟩ := x96 R hn false (c := 1) (by decide)
  have a1' : am_x 96 [.ref m, .int (nI 0), .int (nI 1)] w = _ := a1
  obtain ⟨w2, a2, R2, f2⟩ := x40 R1 hn false (c := 2) (by decide)
  have a2' : am_x 40 [.ref m, .int (nI 0), .int (nI 2)] w1 = _ := a2
  have s2 := stp_frm (lo := 100) (hi := 800) hJ (frm_tr f1 f2) (by decide) (by decide)
  have v := x150 (rm_L R2) hn hi
  have hw := rm_get R2 hi hy
  have kw := mk_kf hw
  obtain ⟨w9, q9, e9⟩ := x146 R2 (stp_J s2) hk hh hm hi hy hp hc1
  have R9 := rm_ext R2 hn (stp_J s2) e9
  refine ⟨w9, ?_, ⟨_, _, _, _, _, _, _, R9⟩, stp_wk (stp_tr s2 (stp_ext (stp_J s2) e9)) (by omega) (by omega)⟩
  simp only [bk182_0, bk182_6, bk182_10, bk182_36, bk182_13, bk182_56, bk182_21, bk182_28, bk182_24, bk182_29, bk182_33, bk182_40, bk182_45, bk182_49, bk182_52, bx182, zW, y1, rm_kf R, a1, a1', rm_kf R1, a2, a2', v, kw,  one_0, b2i_0, reduceCtorEq, not_true_eq_false, not_false_eq_true, gfc R2.1, oM_0, oM_1, oM_2, oM_3, oM_4, oM_5, oM_6, oM_7, oM_8, oM_9, oM_10, oM_11, rm_kf R2, rm_lk R2, q9, Option.bind_some, bct_v, bct_t, otl_s, otl_n, List.cons_append, List.nil_append, List.getElem?_cons_zero, List.getElem?_cons_succ, ↓reduceIte]

theorem y182a (R : RMx w g m kq hq ca ba wl ed wad kd hr cp br n ws th mi nd dr me di re) (hn : n ≤ 3) (hJ : gJ w g) {z0 : Int32} (hz0 : z0 < nI 0 ∨ nI n ≤ z0) {z1 : Int32} : ∃ w', am_x 182 [.ref m, .int z0, .int z1] w = some (.inl (some (.int (nI 0))), w') ∧ RM w' g m kd hr cp br n ws 1 mi nd dr me di re ∧ stp 100 800 g g 0 0 w w' := by
  have zW := x99 R z0
  rw [nwk_t hn hz0] at zW
  obtain ⟨w1, a1, R1, f1⟩ := x96 R hn true (c := 1) (by decide)
  have a1' : am_x 96 [.ref m, .int (nI 1), .int (nI 1)] w = _ := a1
  refine ⟨w1, ?_, ⟨_, _, _, _, _, _, _, R1⟩, stp_frm hJ f1 (by decide) (by decide)⟩
  simp only [bk182_0, bk182_6, bk182_10, bk182_36, bk182_13, bk182_56, bk182_21, bk182_28, bk182_24, bk182_29, bk182_33, bk182_40, bk182_45, bk182_49, bk182_52, bx182, zW, rm_kf R, a1, a1', one_0, b2i_0, reduceCtorEq, not_true_eq_false, not_false_eq_true, Option.bind_some, bct_v, bct_t, otl_s, otl_n, List.cons_append, List.nil_append, List.getElem?_cons_zero, List.getElem?_cons_succ, ↓reduceIte]

theorem y182b (R : RMx w g m kq hq ca ba wl ed wad kd hr cp br n ws th mi nd dr me di re) (hn : n ≤ 3) (hJ : gJ w g) {i : Nat} (hi : i < n) {z1 : Int32} (hz1 : z1 < nI 0 ∨ nI 12 < z1) : ∃ w', am_x 182 [.ref m, .int (nI i), .int z1] w = some (.inl (some (.int (nI 0))), w') ∧ RM w' g m kd hr cp br n ws 2 mi nd dr me di re ∧ stp 100 800 g g 0 0 w w' := by
  have zW := x99 R (nI i)
  rw [nwk_f hn hi] at zW
  have y1 := fun w => x39n (w := w) hz1
  obtain ⟨w1, a1, R1, f1⟩ := x96 R hn false (c := 1) (by decide)
  have a1' : am_x 96 [.ref m, .int (nI 0), .int (nI 1)] w = _ := a1
  obtain ⟨w2, a2, R2, f2⟩ := x40 R1 hn true (c := 2) (by decide)
  have a2' : am_x 40 [.ref m, .int (nI 1), .int (nI 2)] w1 = _ := a2
  refine ⟨w2, ?_, ⟨_, _, _, _, _, _, _, R2⟩, stp_frm hJ (frm_tr f1 f2) (by decide) (by decide)⟩
  simp only [bk182_0, bk182_6, bk182_10, bk182_36, bk182_13, bk182_56, bk182_21, bk182_28, bk182_24, bk182_29, bk182_33, bk182_40, bk182_45, bk182_49, bk182_52, bx182, zW, y1, rm_kf R, a1, a1', rm_kf R1, a2, a2', one_0, b2i_0, reduceCtorEq, not_true_eq_false, not_false_eq_true, Option.bind_some, bct_v, bct_t, otl_s, otl_n, List.cons_append, List.nil_append, List.getElem?_cons_zero, List.getElem?_cons_succ, ↓reduceIte]

theorem y183 (R : RMx w g m kq hq ca ba wl ed wad kd hr cp br n ws th mi nd dr me di re) (hn : n ≤ 3) (hJ : gJ w g) {i : Nat} (hi : i < n) (hy : ws i = (ho, po, ch, lo, ac, bu, sl, may, mp)) {c1 : Nat} (hc1 : c1 ≤ 143)  : ∃ w', am_x 183 [.ref m, .int (nI i), .int (nI c1)] w = some (.inl (some (.int (b2i (may c1)))), w') ∧ RM w' g m kd hr cp br n ws 0 mi nd dr me di re ∧ stp 100 800 g g 0 0 w w' := by
  have zW := x99 R (nI i)
  rw [nwk_f hn hi] at zW
  have y1 := fun w => x39 (w := w) (a := 0) (b := 143) (j := c1) (by decide) (Nat.zero_le c1) hc1
  obtain ⟨w1, a1, R1, f1⟩ := x96 R hn false (c := 1) (by decide)
  have a1' : am_x 96 [.ref m, .int (nI 0), .int (nI 1)] w = _ := a1
  have s1 := stp_frm (lo := 100) (hi := 800) hJ f1 (by decide) (by decide)
  have v := x150 (rm_L R1) hn hi
  have hw := rm_get R1 hi hy
  have kw := mk_kf hw
  obtain ⟨ma, mq, cw, hmy, -⟩ := hw
  have rw_ := hmy.at (p := c1) (by omega)
  refine ⟨w1, ?_, ⟨_, _, _, _, _, _, _, R1⟩, s1⟩
  simp only [bk183_0, bk183_6, bk183_20, bk183_9, bk183_25, bk183_17, bk183_29, bk183_24, bk183_55, bk183_32, bk183_36, bk183_40, bk183_43, bk183_46, bk183_48, bk183_51, bx183, zW, y1, rm_kf R, a1, a1', v, kw,  one_0, b2i_0, reduceCtorEq, not_true_eq_false, not_false_eq_true, gfc R1.1, oM_0, oM_1, oM_2, oM_3, oM_4, oM_5, oM_6, oM_7, oM_8, oM_9, oM_10, oM_11, rm_kf R1, rm_lk R1, gfc cw, oK_0, oK_1, oK_2, oK_3, oK_4, oK_5, oK_6, oK_7, oK_8, rw_, Option.bind_some, bct_v, bct_t, otl_s, otl_n, List.cons_append, List.nil_append, List.getElem?_cons_zero, List.getElem?_cons_succ, ↓reduceIte]
  cases may c1 with
  | true => rw [if_neg (fun q => nomatch q)]; exact bk183_56 (by rfl)
  | false => rw [if_pos rfl]; exact bk183_56 (by rfl)

theorem y183a (R : RMx w g m kq hq ca ba wl ed wad kd hr cp br n ws th mi nd dr me di re) (hn : n ≤ 3) (hJ : gJ w g) {z0 : Int32} (hz0 : z0 < nI 0 ∨ nI n ≤ z0) {z1 : Int32} : ∃ w', am_x 183 [.ref m, .int z0, .int z1] w = some (.inl (some (.int (nI 0))), w') ∧ RM w' g m kd hr cp br n ws 1 mi nd dr me di re ∧ stp 100 800 g g 0 0 w w' := by
  have zW := x99 R z0
  rw [nwk_t hn hz0] at zW
  obtain ⟨w1, a1, R1, f1⟩ := x96 R hn true (c := 1) (by decide)
  have a1' : am_x 96 [.ref m, .int (nI 1), .int (nI 1)] w = _ := a1
  refine ⟨w1, ?_, ⟨_, _, _, _, _, _, _, R1⟩, stp_frm hJ f1 (by decide) (by decide)⟩
  simp only [bk183_0, bk183_6, bk183_20, bk183_9, bk183_25, bk183_17, bk183_29, bk183_24, bk183_55, bk183_32, bk183_36, bk183_40, bk183_43, bk183_46, bk183_48, bk183_51, bx183, zW, rm_kf R, a1, a1', one_0, b2i_0, reduceCtorEq, not_true_eq_false, not_false_eq_true, Option.bind_some, bct_v, bct_t, otl_s, otl_n, List.cons_append, List.nil_append, List.getElem?_cons_zero, List.getElem?_cons_succ, ↓reduceIte]
  exact bk183_56 (by rfl)

theorem y183b (R : RMx w g m kq hq ca ba wl ed wad kd hr cp br n ws th mi nd dr me di re) (hn : n ≤ 3) (hJ : gJ w g) {i : Nat} (hi : i < n) {z1 : Int32} (hz1 : z1 < nI 0 ∨ nI 143 < z1) : ∃ w', am_x 183 [.ref m, .int (nI i), .int z1] w = some (.inl (some (.int (nI 0))), w') ∧ RM w' g m kd hr cp br n ws 1 mi nd dr me di re ∧ stp 100 800 g g 0 0 w w' := by
  have zW := x99 R (nI i)
  rw [nwk_f hn hi] at zW
  have y1 := fun w => x39n (w := w) hz1
  obtain ⟨w1, a1, R1, f1⟩ := x96 R hn true (c := 1) (by decide)
  have a1' : am_x 96 [.ref m, .int (nI 1), .int (nI 1)] w = _ := a1
  refine ⟨w1, ?_, ⟨_, _, _, _, _, _, _, R1⟩, stp_frm hJ f1 (by decide) (by decide)⟩
  simp only [bk183_0, bk183_6, bk183_20, bk183_9, bk183_25, bk183_17, bk183_29, bk183_24, bk183_55, bk183_32, bk183_36, bk183_40, bk183_43, bk183_46, bk183_48, bk183_51, bx183, zW, y1, rm_kf R, a1, a1', one_0, b2i_0, reduceCtorEq, not_true_eq_false, not_false_eq_true, Option.bind_some, bct_v, bct_t, otl_s, otl_n, List.cons_append, List.nil_append, List.getElem?_cons_zero, List.getElem?_cons_succ, ↓reduceIte]
  exact bk183_56 (by rfl)

theorem y184 (R : RMx w g m kq hq ca ba wl ed wad kd hr cp br n ws th mi nd dr me di re) (hn : n ≤ 3) (hJ : gJ w g) {i : Nat} (hi : i < n) (hy : ws i = (ho, po, ch, lo, ac, bu, sl, may, mp)) {c1 : Nat} (hc1 : c1 ≤ 3)  : ∃ w', am_x 184 [.ref m, .int (nI i), .int (nI c1)] w = some (.inl (some (.long (whS may c1))), w') ∧ RM w' g m kd hr cp br n ws 0 mi nd dr me di re ∧ stp 100 800 g g 0 0 w w' := by
  have zW := x99 R (nI i)
  rw [nwk_f hn hi] at zW
  have y1 := fun w => x98 (w := w) hc1
  obtain ⟨w1, a1, R1, f1⟩ := x96 R hn false (c := 1) (by decide)
  have a1' : am_x 96 [.ref m, .int (nI 0), .int (nI 1)] w = _ := a1
  obtain ⟨w2, a2, R2, f2⟩ := x40 R1 hn false (c := 2) (by decide)
  have a2' : am_x 40 [.ref m, .int (nI 0), .int (nI 2)] w1 = _ := a2
  have s2 := stp_frm (lo := 100) (hi := 800) hJ (frm_tr f1 f2) (by decide) (by decide)
  have v := x150 (rm_L R2) hn hi
  have hw := rm_get R2 hi hy
  have kw := mk_kf hw
  have q9 := x48 (x := m) hw (f := c1) (by omega)
  refine ⟨w2, ?_, ⟨_, _, _, _, _, _, _, R2⟩, s2⟩
  simp only [bk184_0, bk184_6, bk184_10, bk184_25, bk184_13, bk184_45, bk184_18, bk184_22, bk184_29, bk184_34, bk184_38, bk184_41, bx184, zW, y1, rm_kf R, a1, a1', rm_kf R1, a2, a2', v, kw,  one_0, b2i_0, reduceCtorEq, not_true_eq_false, not_false_eq_true, gfc R2.1, oM_0, oM_1, oM_2, oM_3, oM_4, oM_5, oM_6, oM_7, oM_8, oM_9, oM_10, oM_11, rm_kf R2, rm_lk R2, q9, Option.bind_some, bct_v, bct_t, otl_s, otl_n, List.cons_append, List.nil_append, List.getElem?_cons_zero, List.getElem?_cons_succ, ↓reduceIte]

theorem y184a (R : RMx w g m kq hq ca ba wl ed wad kd hr cp br n ws th mi nd dr me di re) (hn : n ≤ 3) (hJ : gJ w g) {z0 : Int32} (hz0 : z0 < nI 0 ∨ nI n ≤ z0) {z1 : Int32} : ∃ w', am_x 184 [.ref m, .int z0, .int z1] w = some (.inl (some (.long (lN 0))), w') ∧ RM w' g m kd hr cp br n ws 1 mi nd dr me di re ∧ stp 100 800 g g 0 0 w w' := by
  have zW := x99 R z0
  rw [nwk_t hn hz0] at zW
  obtain ⟨w1, a1, R1, f1⟩ := x96 R hn true (c := 1) (by decide)
  have a1' : am_x 96 [.ref m, .int (nI 1), .int (nI 1)] w = _ := a1
  refine ⟨w1, ?_, ⟨_, _, _, _, _, _, _, R1⟩, stp_frm hJ f1 (by decide) (by decide)⟩
  simp only [bk184_0, bk184_6, bk184_10, bk184_25, bk184_13, bk184_45, bk184_18, bk184_22, bk184_29, bk184_34, bk184_38, bk184_41, bx184, zW, rm_kf R, a1, a1', one_0, b2i_0, reduceCtorEq, not_true_eq_false, not_false_eq_true, Option.bind_some, bct_v, bct_t, otl_s, otl_n, List.cons_append, List.nil_append, List.getElem?_cons_zero, List.getElem?_cons_succ, ↓reduceIte]

theorem y184b (R : RMx w g m kq hq ca ba wl ed wad kd hr cp br n ws th mi nd dr me di re) (hn : n ≤ 3) (hJ : gJ w g) {i : Nat} (hi : i < n) {z1 : Int32} (hz1 : z1 < nI 0 ∨ nI 3 < z1) : ∃ w', am_x 184 [.ref m, .int (nI i), .int z1] w = some (.inl (some (.long (lN 0))), w') ∧ RM w' g m kd hr cp br n ws 2 mi nd dr me di re ∧ stp 100 800 g g 0 0 w w' := by
  have zW := x99 R (nI i)
  rw [nwk_f hn hi] at zW
  have y1 := fun w => x98n (w := w) hz1
  obtain ⟨w1, a1, R1, f1⟩ := x96 R hn false (c := 1) (by decide)
  have a1' : am_x 96 [.ref m, .int (nI 0), .int (nI 1)] w = _ := a1
  obtain ⟨w2, a2, R2, f2⟩ := x40 R1 hn true (c := 2) (by decide)
  have a2' : am_x 40 [.ref m, .int (nI 1), .int (nI 2)] w1 = _ := a2
  refine ⟨w2, ?_, ⟨_, _, _, _, _, _, _, R2⟩, stp_frm hJ (frm_tr f1 f2) (by decide) (by decide)⟩
  simp only [bk184_0, bk184_6, bk184_10, bk184_25, bk184_13, bk184_45, bk184_18, bk184_22, bk184_29, bk184_34, bk184_38, bk184_41, bx184, zW, y1, rm_kf R, a1, a1', rm_kf R1, a2, a2', one_0, b2i_0, reduceCtorEq, not_true_eq_false, not_false_eq_true, Option.bind_some, bct_v, bct_t, otl_s, otl_n, List.cons_append, List.nil_append, List.getElem?_cons_zero, List.getElem?_cons_succ, ↓reduceIte]

theorem y185 (R : RMx w g m kq hq ca ba wl ed wad kd hr cp br n ws th mi nd dr me di re) (hn : n ≤ 3) (hJ : gJ w g) {i : Nat} (hi : i < n) (hy : ws i = (ho, po, ch, lo, ac, bu, sl, may, mp))  : ∃ w', am_x 185 [.ref m, .int (nI i)] w = some (.inl (some (.double (dbtS may))), w') ∧ RM w' g m kd hr cp br n ws 0 mi nd dr me di re ∧ stp 100 800 g g 0 0 w w' := by
  have zW := x99 R (nI i)
  rw [nwk_f hn hi] at zW
  obtain ⟨w1, a1, R1, f1⟩ := x96 R hn false (c := 1) (by decide)
  have a1' : am_x 96 [.ref m, .int (nI 0), .int (nI 1)] w = _ := a1
  have s1 := stp_frm (lo := 100) (hi := 800) hJ f1 (by decide) (by decide)
  have v := x150 (rm_L R1) hn hi
  have hw := rm_get R1 hi hy
  have kw := mk_kf hw
  have q9 := x49 (x := m) hw
  refine ⟨w1, ?_, ⟨_, _, _, _, _, _, _, R1⟩, s1⟩
  simp only [bk185_0, bk185_6, bk185_10, bk185_17, bk185_13, bk185_22, bk185_32, bk185_26, bk185_29, bx185, zW, rm_kf R, a1, a1', v, kw,  one_0, b2i_0, reduceCtorEq, not_true_eq_false, not_false_eq_true, gfc R1.1, oM_0, oM_1, oM_2, oM_3, oM_4, oM_5, oM_6, oM_7, oM_8, oM_9, oM_10, oM_11, rm_kf R1, rm_lk R1, q9, Option.bind_some, bct_v, bct_t, otl_s, otl_n, List.cons_append, List.nil_append, List.getElem?_cons_zero, List.getElem?_cons_succ, ↓reduceIte]

theorem y185a (R : RMx w g m kq hq ca ba wl ed wad kd hr cp br n ws th mi nd dr me di re) (hn : n ≤ 3) (hJ : gJ w g) {z0 : Int32} (hz0 : z0 < nI 0 ∨ nI n ≤ z0) : ∃ w', am_x 185 [.ref m, .int z0] w = some (.inl (some (.double FP.dconst0)), w') ∧ RM w' g m kd hr cp br n ws 1 mi nd dr me di re ∧ stp 100 800 g g 0 0 w w' := by
  have zW := x99 R z0
  rw [nwk_t hn hz0] at zW
  obtain ⟨w1, a1, R1, f1⟩ := x96 R hn true (c := 1) (by decide)
  have a1' : am_x 96 [.ref m, .int (nI 1), .int (nI 1)] w = _ := a1
  refine ⟨w1, ?_, ⟨_, _, _, _, _, _, _, R1⟩, stp_frm hJ f1 (by decide) (by decide)⟩
  simp only [bk185_0, bk185_6, bk185_10, bk185_17, bk185_13, bk185_22, bk185_32, bk185_26, bk185_29, bx185, zW, rm_kf R, a1, a1', one_0, b2i_0, reduceCtorEq, not_true_eq_false, not_false_eq_true, Option.bind_some, bct_v, bct_t, otl_s, otl_n, List.cons_append, List.nil_append, List.getElem?_cons_zero, List.getElem?_cons_succ, ↓reduceIte]

theorem y212 (R : RMx w g m kq hq ca ba wl ed wad kd hr cp br n ws th mi nd dr me di re) (hn : n ≤ 3) (hJ : gJ w g) {c0 : Nat} (hc0 : c0 ≤ 35) {c1 : Nat} (hc1 : c1 ≤ 3) {c2 : Nat} (hc2 : c2 ≤ 2) (hk : kdok kd) (hh : hrok hr) (hm : mi ≤ 3000) : ∃ w', am_x 212 [.ref m, .int (nI c0), .int (nI c1), .int (nI c2)] w = some (.inl (some (.int (edgS kd hr mi c0 c1 c2))), w') ∧ RM w' g m kd hr cp br n ws 0 mi nd dr me di re ∧ stp 100 800 g g 1 3 w w' := by
  have y0 := fun w => x97 (w := w) hc0
  have y1 := fun w => x98 (w := w) hc1
  have y2 := fun w => x39 (w := w) (a := 0) (b := 2) (j := c2) (by decide) (Nat.zero_le c2) hc2
  obtain ⟨w1, a1, R1, f1⟩ := x96 R hn false (c := 1) (by decide)
  have a1' : am_x 96 [.ref m, .int (nI 0), .int (nI 1)] w = _ := a1
  obtain ⟨w2, a2, R2, f2⟩ := x40 R1 hn false (c := 2) (by decide)
  have a2' : am_x 40 [.ref m, .int (nI 0), .int (nI 2)] w1 = _ := a2
  have s2 := stp_frm (lo := 100) (hi := 800) hJ (frm_tr f1 f2) (by decide) (by decide)
  obtain ⟨w9, q9, e9⟩ := x181 R2 (stp_J s2) hn hk hh hm (c := c0) (s := c1) (by omega) (by omega) hc2
  have R9 := rm_ext R2 hn (stp_J s2) e9
  refine ⟨w9, ?_, ⟨_, _, _, _, _, _, _, R9⟩, stp_wk (stp_tr s2 (stp_ext (stp_J s2) e9)) (by omega) (by omega)⟩
  simp only [bk212_0, bk212_5, bk212_15, bk212_8, bk212_20, bk212_12, bk212_24, bk212_19, bk212_49, bk212_27, bk212_60, bk212_34, bk212_41, bk212_37, bk212_42, bk212_46, bk212_53, bx212, y0, y1, y2, rm_kf R, a1, a1', rm_kf R1, a2, a2',  one_0, b2i_0, reduceCtorEq, not_true_eq_false, not_false_eq_true, gfc R2.1, oM_0, oM_1, oM_2, oM_3, oM_4, oM_5, oM_6, oM_7, oM_8, oM_9, oM_10, oM_11, rm_kf R2, rm_lk R2, q9, Option.bind_some, bct_v, bct_t, otl_s, otl_n, List.cons_append, List.nil_append, List.getElem?_cons_zero, List.getElem?_cons_succ, ↓reduceIte]

theorem y212a (R : RMx w g m kq hq ca ba wl ed wad kd hr cp br n ws th mi nd dr me di re) (hn : n ≤ 3) (hJ : gJ w g) {z0 : Int32} (hz0 : z0 < nI 0 ∨ nI 35 < z0) {z1 : Int32} {z2 : Int32} : ∃ w', am_x 212 [.ref m, .int z0, .int z1, .int z2] w = some (.inl (some (.int (nI 0))), w') ∧ RM w' g m kd hr cp br n ws 1 mi nd dr me di re ∧ stp 100 800 g g 0 0 w w' := by
  have y0 := fun w => x97n (w := w) hz0
  obtain ⟨w1, a1, R1, f1⟩ := x96 R hn true (c := 1) (by decide)
  have a1' : am_x 96 [.ref m, .int (nI 1), .int (nI 1)] w = _ := a1
  refine ⟨w1, ?_, ⟨_, _, _, _, _, _, _, R1⟩, stp_frm hJ f1 (by decide) (by decide)⟩
  simp only [bk212_0, bk212_5, bk212_15, bk212_8, bk212_20, bk212_12, bk212_24, bk212_19, bk212_49, bk212_27, bk212_60, bk212_34, bk212_41, bk212_37, bk212_42, bk212_46, bk212_53, bx212, y0, rm_kf R, a1, a1', one_0, b2i_0, reduceCtorEq, not_true_eq_false, not_false_eq_true, Option.bind_some, bct_v, bct_t, otl_s, otl_n, List.cons_append, List.nil_append, List.getElem?_cons_zero, List.getElem?_cons_succ, ↓reduceIte]

theorem y212b (R : RMx w g m kq hq ca ba wl ed wad kd hr cp br n ws th mi nd dr me di re) (hn : n ≤ 3) (hJ : gJ w g) {c0 : Nat} (hc0 : c0 ≤ 35) {z1 : Int32} (hz1 : z1 < nI 0 ∨ nI 3 < z1) {z2 : Int32} : ∃ w', am_x 212 [.ref m, .int (nI c0), .int z1, .int z2] w = some (.inl (some (.int (nI 0))), w') ∧ RM w' g m kd hr cp br n ws 1 mi nd dr me di re ∧ stp 100 800 g g 0 0 w w' := by
  have y0 := fun w => x97 (w := w) hc0
  have y1 := fun w => x98n (w := w) hz1
  obtain ⟨w1, a1, R1, f1⟩ := x96 R hn true (c := 1) (by decide)
  have a1' : am_x 96 [.ref m, .int (nI 1), .int (nI 1)] w = _ := a1
  refine ⟨w1, ?_, ⟨_, _, _, _, _, _, _, R1⟩, stp_frm hJ f1 (by decide) (by decide)⟩
  simp only [bk212_0, bk212_5, bk212_15, bk212_8, bk212_20, bk212_12, bk212_24, bk212_19, bk212_49, bk212_27, bk212_60, bk212_34, bk212_41, bk212_37, bk212_42, bk212_46, bk212_53, bx212, y0, y1, rm_kf R, a1, a1', one_0, b2i_0, reduceCtorEq, not_true_eq_false, not_false_eq_true, Option.bind_some, bct_v, bct_t, otl_s, otl_n, List.cons_append, List.nil_append, List.getElem?_cons_zero, List.getElem?_cons_succ, ↓reduceIte]

theorem y212c (R : RMx w g m kq hq ca ba wl ed wad kd hr cp br n ws th mi nd dr me di re) (hn : n ≤ 3) (hJ : gJ w g) {c0 : Nat} (hc0 : c0 ≤ 35) {c1 : Nat} (hc1 : c1 ≤ 3) {z2 : Int32} (hz2 : z2 < nI 0 ∨ nI 2 < z2) : ∃ w', am_x 212 [.ref m, .int (nI c0), .int (nI c1), .int z2] w = some (.inl (some (.int (nI 0))), w') ∧ RM w' g m kd hr cp br n ws 2 mi nd dr me di re ∧ stp 100 800 g g 0 0 w w' := by
  have y0 := fun w => x97 (w := w) hc0
  have y1 := fun w => x98 (w := w) hc1
  have y2 := fun w => x39n (w := w) hz2
  obtain ⟨w1, a1, R1, f1⟩ := x96 R hn false (c := 1) (by decide)
  have a1' : am_x 96 [.ref m, .int (nI 0), .int (nI 1)] w = _ := a1
  obtain ⟨w2, a2, R2, f2⟩ := x40 R1 hn true (c := 2) (by decide)
  have a2' : am_x 40 [.ref m, .int (nI 1), .int (nI 2)] w1 = _ := a2
  refine ⟨w2, ?_, ⟨_, _, _, _, _, _, _, R2⟩, stp_frm hJ (frm_tr f1 f2) (by decide) (by decide)⟩
  simp only [bk212_0, bk212_5, bk212_15, bk212_8, bk212_20, bk212_12, bk212_24, bk212_19, bk212_49, bk212_27, bk212_60, bk212_34, bk212_41, bk212_37, bk212_42, bk212_46, bk212_53, bx212, y0, y1, y2, rm_kf R, a1, a1', rm_kf R1, a2, a2', one_0, b2i_0, reduceCtorEq, not_true_eq_false, not_false_eq_true, Option.bind_some, bct_v, bct_t, otl_s, otl_n, List.cons_append, List.nil_append, List.getElem?_cons_zero, List.getElem?_cons_succ, ↓reduceIte]

theorem y214 (R : RMx w g m kq hq ca ba wl ed wad kd hr cp br n ws th mi nd dr me di re) (hn : n ≤ 3) (hJ : gJ w g) {i : Nat} (hi : i < n) (hy : ws i = (ho, po, ch, lo, ac, bu, sl, may, mp)) {c1 : Nat} (hc1 : c1 ≤ 35) {c2 : Nat} (hc2 : c2 ≤ 3)  : ∃ w', am_x 214 [.ref m, .int (nI i), .int (nI c1), .int (nI c2)] w = some (.inl (some (.int (nI (kno mp c1 c2)))), w') ∧ RM w' g m kd hr cp br n ws 0 mi nd dr me di re ∧ stp 100 800 g g 0 0 w w' := by
  have zW := x99 R (nI i)
  rw [nwk_f hn hi] at zW
  have y1 := fun w => x97 (w := w) hc1
  have y2 := fun w => x98 (w := w) hc2
  obtain ⟨w1, a1, R1, f1⟩ := x96 R hn false (c := 1) (by decide)
  have a1' : am_x 96 [.ref m, .int (nI 0), .int (nI 1)] w = _ := a1
  have s1 := stp_frm (lo := 100) (hi := 800) hJ f1 (by decide) (by decide)
  have v := x150 (rm_L R1) hn hi
  have hw := rm_get R1 hi hy
  have kw := mk_kf hw
  have q9 := x174 hw (c := c1) (s := c2) (by omega) (by omega)
  refine ⟨w1, ?_, ⟨_, _, _, _, _, _, _, R1⟩, s1⟩
  simp only [bk214_0, bk214_6, bk214_23, bk214_9, bk214_28, bk214_13, bk214_32, bk214_16, bk214_39, bk214_35, bk214_20, bk214_43, bk214_55, bk214_27, bk214_47, bk214_50, bx214, zW, y1, y2, rm_kf R, a1, a1', v, kw,  one_0, b2i_0, reduceCtorEq, not_true_eq_false, not_false_eq_true, gfc R1.1, oM_0, oM_1, oM_2, oM_3, oM_4, oM_5, oM_6, oM_7, oM_8, oM_9, oM_10, oM_11, rm_kf R1, rm_lk R1, q9, Option.bind_some, bct_v, bct_t, otl_s, otl_n, List.cons_append, List.nil_append, List.getElem?_cons_zero, List.getElem?_cons_succ, ↓reduceIte]

theorem y214a (R : RMx w g m kq hq ca ba wl ed wad kd hr cp br n ws th mi nd dr me di re) (hn : n ≤ 3) (hJ : gJ w g) {z0 : Int32} (hz0 : z0 < nI 0 ∨ nI n ≤ z0) {z1 : Int32} {z2 : Int32} : ∃ w', am_x 214 [.ref m, .int z0, .int z1, .int z2] w = some (.inl (some (.int (nI 0))), w') ∧ RM w' g m kd hr cp br n ws 1 mi nd dr me di re ∧ stp 100 800 g g 0 0 w w' := by
  have zW := x99 R z0
  rw [nwk_t hn hz0] at zW
  obtain ⟨w1, a1, R1, f1⟩ := x96 R hn true (c := 1) (by decide)
  have a1' : am_x 96 [.ref m, .int (nI 1), .int (nI 1)] w = _ := a1
  refine ⟨w1, ?_, ⟨_, _, _, _, _, _, _, R1⟩, stp_frm hJ f1 (by decide) (by decide)⟩
  simp only [bk214_0, bk214_6, bk214_23, bk214_9, bk214_28, bk214_13, bk214_32, bk214_16, bk214_39, bk214_35, bk214_20, bk214_43, bk214_55, bk214_27, bk214_47, bk214_50, bx214, zW, rm_kf R, a1, a1', one_0, b2i_0, reduceCtorEq, not_true_eq_false, not_false_eq_true, Option.bind_some, bct_v, bct_t, otl_s, otl_n, List.cons_append, List.nil_append, List.getElem?_cons_zero, List.getElem?_cons_succ, ↓reduceIte]

theorem y214b (R : RMx w g m kq hq ca ba wl ed wad kd hr cp br n ws th mi nd dr me di re) (hn : n ≤ 3) (hJ : gJ w g) {i : Nat} (hi : i < n) {z1 : Int32} (hz1 : z1 < nI 0 ∨ nI 35 < z1) {z2 : Int32} : ∃ w', am_x 214 [.ref m, .int (nI i), .int z1, .int z2] w = some (.inl (some (.int (nI 0))), w') ∧ RM w' g m kd hr cp br n ws 1 mi nd dr me di re ∧ stp 100 800 g g 0 0 w w' := by
  have zW := x99 R (nI i)
  rw [nwk_f hn hi] at zW
  have y1 := fun w => x97n (w := w) hz1
  obtain ⟨w1, a1, R1, f1⟩ := x96 R hn true (c := 1) (by decide)
  have a1' : am_x 96 [.ref m, .int (nI 1), .int (nI 1)] w = _ := a1
  refine ⟨w1, ?_, ⟨_, _, _, _, _, _, _, R1⟩, stp_frm hJ f1 (by decide) (by decide)⟩
  simp only [bk214_0, bk214_6, bk214_23, bk214_9, bk214_28, bk214_13, bk214_32, bk214_16, bk214_39, bk214_35, bk214_20, bk214_43, bk214_55, bk214_27, bk214_47, bk214_50, bx214, zW, y1, rm_kf R, a1, a1', one_0, b2i_0, reduceCtorEq, not_true_eq_false, not_false_eq_true, Option.bind_some, bct_v, bct_t, otl_s, otl_n, List.cons_append, List.nil_append, List.getElem?_cons_zero, List.getElem?_cons_succ, ↓reduceIte]

theorem y214c (R : RMx w g m kq hq ca ba wl ed wad kd hr cp br n ws th mi nd dr me di re) (hn : n ≤ 3) (hJ : gJ w g) {i : Nat} (hi : i < n) {c1 : Nat} (hc1 : c1 ≤ 35) {z2 : Int32} (hz2 : z2 < nI 0 ∨ nI 3 < z2) : ∃ w', am_x 214 [.ref m, .int (nI i), .int (nI c1), .int z2] w = some (.inl (some (.int (nI 0))), w') ∧ RM w' g m kd hr cp br n ws 1 mi nd dr me di re ∧ stp 100 800 g g 0 0 w w' := by
  have zW := x99 R (nI i)
  rw [nwk_f hn hi] at zW
  have y1 := fun w => x97 (w := w) hc1
  have y2 := fun w => x98n (w := w) hz2
  obtain ⟨w1, a1, R1, f1⟩ := x96 R hn true (c := 1) (by decide)
  have a1' : am_x 96 [.ref m, .int (nI 1), .int (nI 1)] w = _ := a1
  refine ⟨w1, ?_, ⟨_, _, _, _, _, _, _, R1⟩, stp_frm hJ f1 (by decide) (by decide)⟩
  simp only [bk214_0, bk214_6, bk214_23, bk214_9, bk214_28, bk214_13, bk214_32, bk214_16, bk214_39, bk214_35, bk214_20, bk214_43, bk214_55, bk214_27, bk214_47, bk214_50, bx214, zW, y1, y2, rm_kf R, a1, a1', one_0, b2i_0, reduceCtorEq, not_true_eq_false, not_false_eq_true, Option.bind_some, bct_v, bct_t, otl_s, otl_n, List.cons_append, List.nil_append, List.getElem?_cons_zero, List.getElem?_cons_succ, ↓reduceIte]

theorem y227 (R : RMx w g m kq hq ca ba wl ed wad kd hr cp br n ws th mi nd dr me di re) (hn : n ≤ 3) (hJ : gJ w g) {c0 : Nat} (hc0 : c0 ≤ 11) (hk : kdok kd) (hh : hrok hr) (hm : mi ≤ 3000) : ∃ w', am_x 227 [.ref m, .int (nI c0)] w = some (.inl (some (.int (hsR kd hr cp br n mi dr me di re c0))), w') ∧ RM w' g m kd hr cp br n ws 0 mi nd dr me di re ∧ stp 100 800 g g 1 12 w w' := by
  have y0 := fun w => x39 (w := w) (a := 0) (b := 11) (j := c0) (by decide) (Nat.zero_le c0) hc0
  obtain ⟨w1, a1, R1, f1⟩ := x96 R hn false (c := 1) (by decide)
  have a1' : am_x 96 [.ref m, .int (nI 0), .int (nI 1)] w = _ := a1
  have s1 := stp_frm (lo := 100) (hi := 800) hJ f1 (by decide) (by decide)
  obtain ⟨w9, q9, e9⟩ := x213 R1 (stp_J s1) hn hk hh hm hc0
  have R9 := rm_ext R1 hn (stp_J s1) e9
  refine ⟨w9, ?_, ⟨_, _, _, _, _, _, _, R9⟩, stp_wk (stp_tr s1 (stp_ext (stp_J s1) e9)) (by omega) (by omega)⟩
  simp only [bk227_0, bk227_8, bk227_15, bk227_11, bk227_16, bk227_20, bk227_27, bk227_23, bk227_32, bx227, y0, rm_kf R, a1, a1',  one_0, b2i_0, reduceCtorEq, not_true_eq_false, not_false_eq_true, gfc R1.1, oM_0, oM_1, oM_2, oM_3, oM_4, oM_5, oM_6, oM_7, oM_8, oM_9, oM_10, oM_11, rm_kf R1, rm_lk R1, q9, Option.bind_some, bct_v, bct_t, otl_s, otl_n, List.cons_append, List.nil_append, List.getElem?_cons_zero, List.getElem?_cons_succ, ↓reduceIte]

theorem y227a (R : RMx w g m kq hq ca ba wl ed wad kd hr cp br n ws th mi nd dr me di re) (hn : n ≤ 3) (hJ : gJ w g) {z0 : Int32} (hz0 : z0 < nI 0 ∨ nI 11 < z0) : ∃ w', am_x 227 [.ref m, .int z0] w = some (.inl (some (.int (nI 0))), w') ∧ RM w' g m kd hr cp br n ws 1 mi nd dr me di re ∧ stp 100 800 g g 0 0 w w' := by
  have y0 := fun w => x39n (w := w) hz0
  obtain ⟨w1, a1, R1, f1⟩ := x96 R hn true (c := 1) (by decide)
  have a1' : am_x 96 [.ref m, .int (nI 1), .int (nI 1)] w = _ := a1
  refine ⟨w1, ?_, ⟨_, _, _, _, _, _, _, R1⟩, stp_frm hJ f1 (by decide) (by decide)⟩
  simp only [bk227_0, bk227_8, bk227_15, bk227_11, bk227_16, bk227_20, bk227_27, bk227_23, bk227_32, bx227, y0, rm_kf R, a1, a1', one_0, b2i_0, reduceCtorEq, not_true_eq_false, not_false_eq_true, Option.bind_some, bct_v, bct_t, otl_s, otl_n, List.cons_append, List.nil_append, List.getElem?_cons_zero, List.getElem?_cons_succ, ↓reduceIte]

theorem x208e {a f x : Nat} (hJ : gJ w g) (hp : mpo mp) (h : Mkv w g i a (ho, po, ch, lo, ac, bu, sl, may, mp)) (hf : f < 36) : ∃ w', am_x 208 [.ref x, .ref a, .int (nI f)] w = some (.inl (some (.ref w.2.1)), w') ∧ ext w w' 1 36 ∧ ∀ c, c < 36 → am_ri 0 w' w.2.1 (nI c) = some (no (wayS mp f c)) := by
  obtain ⟨M, k1, k2⟩ := x208 hJ hp h (f := f) (x := x) hf
  refine ⟨nwr w 0 36 M, k2, nwr_ext, fun c hc => ?_⟩
  have r := ric (nwr_at (w := w) (t := 0) (n := 36) (M := M)) (i := c) rfl hc (by decide)
  rw [k1 c hc] at r
  exact r

theorem y228 (R : RMx w g m kq hq ca ba wl ed wad kd hr cp br n ws th mi nd dr me di re) (hn : n ≤ 3) (hJ : gJ w g) {i : Nat} (hi : i < n) (hy : ws i = (ho, po, ch, lo, ac, bu, sl, may, mp)) {c1 : Nat} (hc1 : c1 ≤ 35) {c2 : Nat} (hc2 : c2 ≤ 35) (hp : mpo mp) : ∃ w', am_x 228 [.ref m, .int (nI i), .int (nI c1), .int (nI c2)] w = some (.inl (some (.int (no (wayS mp c1 c2)))), w') ∧ RM w' g m kd hr cp br n ws 0 mi nd dr me di re ∧ stp 100 800 g g 1 36 w w' := by
  have zW := x99 R (nI i)
  rw [nwk_f hn hi] at zW
  have y1 := fun w => x97 (w := w) hc1
  have y2 := fun w => x97 (w := w) hc2
  obtain ⟨w1, a1, R1, f1⟩ := x96 R hn false (c := 1) (by decide)
  have a1' : am_x 96 [.ref m, .int (nI 0), .int (nI 1)] w = _ := a1
  have s1 := stp_frm (lo := 100) (hi := 800) hJ f1 (by decide) (by decide)
  have v := x150 (rm_L R1) hn hi
  have hw := rm_get R1 hi hy
  have kw := mk_kf hw
  obtain ⟨w9, q9, e9, r9⟩ := x208e (stp_J s1) hp hw (f := c1) (x := m) (by omega)
  have R9 := rm_ext R1 hn (stp_J s1) e9
  refine ⟨w9, ?_, ⟨_, _, _, _, _, _, _, R9⟩, stp_wk (stp_tr s1 (stp_ext (stp_J s1) e9)) (by omega) (by omega)⟩
  simp only [bk228_0, bk228_6, bk228_23, bk228_9, bk228_28, bk228_13, bk228_32, bk228_16, bk228_39, bk228_35, bk228_20, bk228_44, bk228_57, bk228_27, bk228_48, bk228_51, bk228_55, bx228, zW, y1, y2, rm_kf R, a1, a1', v, kw,  one_0, b2i_0, reduceCtorEq, not_true_eq_false, not_false_eq_true, gfc R1.1, oM_0, oM_1, oM_2, oM_3, oM_4, oM_5, oM_6, oM_7, oM_8, oM_9, oM_10, oM_11, rm_kf R1, rm_lk R1, q9, r9 c2 (by omega), Option.bind_some, bct_v, bct_t, otl_s, otl_n, List.cons_append, List.nil_append, List.getElem?_cons_zero, List.getElem?_cons_succ, ↓reduceIte]

theorem y228a (R : RMx w g m kq hq ca ba wl ed wad kd hr cp br n ws th mi nd dr me di re) (hn : n ≤ 3) (hJ : gJ w g) {z0 : Int32} (hz0 : z0 < nI 0 ∨ nI n ≤ z0) {z1 : Int32} {z2 : Int32} : ∃ w', am_x 228 [.ref m, .int z0, .int z1, .int z2] w = some (.inl (some (.int (nI 0))), w') ∧ RM w' g m kd hr cp br n ws 1 mi nd dr me di re ∧ stp 100 800 g g 0 0 w w' := by
  have zW := x99 R z0
  rw [nwk_t hn hz0] at zW
  obtain ⟨w1, a1, R1, f1⟩ := x96 R hn true (c := 1) (by decide)
  have a1' : am_x 96 [.ref m, .int (nI 1), .int (nI 1)] w = _ := a1
  refine ⟨w1, ?_, ⟨_, _, _, _, _, _, _, R1⟩, stp_frm hJ f1 (by decide) (by decide)⟩
  simp only [bk228_0, bk228_6, bk228_23, bk228_9, bk228_28, bk228_13, bk228_32, bk228_16, bk228_39, bk228_35, bk228_20, bk228_44, bk228_57, bk228_27, bk228_48, bk228_51, bk228_55, bx228, zW, rm_kf R, a1, a1', one_0, b2i_0, reduceCtorEq, not_true_eq_false, not_false_eq_true, Option.bind_some, bct_v, bct_t, otl_s, otl_n, List.cons_append, List.nil_append, List.getElem?_cons_zero, List.getElem?_cons_succ, ↓reduceIte]

theorem y228b (R : RMx w g m kq hq ca ba wl ed wad kd hr cp br n ws th mi nd dr me di re) (hn : n ≤ 3) (hJ : gJ w g) {i : Nat} (hi : i < n) {z1 : Int32} (hz1 : z1 < nI 0 ∨ nI 35 < z1) {z2 : Int32} : ∃ w', am_x 228 [.ref m, .int (nI i), .int z1, .int z2] w = some (.inl (some (.int (nI 0))), w') ∧ RM w' g m kd hr cp br n ws 1 mi nd dr me di re ∧ stp 100 800 g g 0 0 w w' := by
  have zW := x99 R (nI i)
  rw [nwk_f hn hi] at zW
  have y1 := fun w => x97n (w := w) hz1
  obtain ⟨w1, a1, R1, f1⟩ := x96 R hn true (c := 1) (by decide)
  have a1' : am_x 96 [.ref m, .int (nI 1), .int (nI 1)] w = _ := a1
  refine ⟨w1, ?_, ⟨_, _, _, _, _, _, _, R1⟩, stp_frm hJ f1 (by decide) (by decide)⟩
  simp only [bk228_0, bk228_6, bk228_23, bk228_9, bk228_28, bk228_13, bk228_32, bk228_16, bk228_39, bk228_35, bk228_20, bk228_44, bk228_57, bk228_27, bk228_48, bk228_51, bk228_55, bx228, zW, y1, rm_kf R, a1, a1', one_0, b2i_0, reduceCtorEq, not_true_eq_false, not_false_eq_true, Option.bind_some, bct_v, bct_t, otl_s, otl_n, List.cons_append, List.nil_append, List.getElem?_cons_zero, List.getElem?_cons_succ, ↓reduceIte]

theorem y228c (R : RMx w g m kq hq ca ba wl ed wad kd hr cp br n ws th mi nd dr me di re) (hn : n ≤ 3) (hJ : gJ w g) {i : Nat} (hi : i < n) {c1 : Nat} (hc1 : c1 ≤ 35) {z2 : Int32} (hz2 : z2 < nI 0 ∨ nI 35 < z2) : ∃ w', am_x 228 [.ref m, .int (nI i), .int (nI c1), .int z2] w = some (.inl (some (.int (nI 0))), w') ∧ RM w' g m kd hr cp br n ws 1 mi nd dr me di re ∧ stp 100 800 g g 0 0 w w' := by
  have zW := x99 R (nI i)
  rw [nwk_f hn hi] at zW
  have y1 := fun w => x97 (w := w) hc1
  have y2 := fun w => x97n (w := w) hz2
  obtain ⟨w1, a1, R1, f1⟩ := x96 R hn true (c := 1) (by decide)
  have a1' : am_x 96 [.ref m, .int (nI 1), .int (nI 1)] w = _ := a1
  refine ⟨w1, ?_, ⟨_, _, _, _, _, _, _, R1⟩, stp_frm hJ f1 (by decide) (by decide)⟩
  simp only [bk228_0, bk228_6, bk228_23, bk228_9, bk228_28, bk228_13, bk228_32, bk228_16, bk228_39, bk228_35, bk228_20, bk228_44, bk228_57, bk228_27, bk228_48, bk228_51, bk228_55, bx228, zW, y1, y2, rm_kf R, a1, a1', one_0, b2i_0, reduceCtorEq, not_true_eq_false, not_false_eq_true, Option.bind_some, bct_v, bct_t, otl_s, otl_n, List.cons_append, List.nil_append, List.getElem?_cons_zero, List.getElem?_cons_succ, ↓reduceIte]

theorem x211e {a t : Nat} (hJ : gJ w g) (hp : mpo mp) (h : Mkv w g i a (ho, po, ch, lo, ac, bu, sl, may, mp)) (ht : t < 8) : ∃ w', am_x 211 [.ref a, .int (nI t)] w = some (.inl (some (.ref w.2.1)), w') ∧ ext w w' 1 144 ∧ am_x 44 [.ref w.2.1] w' = some (.inl (some (.int (nI (cnt 144 (mayL may mp t))))), w') := by
  obtain ⟨F, f1, f2⟩ := x211 hJ hp h ht
  exact ⟨nwr w 2 144 F, f2, nwr_ext, all_nwr f1⟩

theorem y231 (R : RMx w g m kq hq ca ba wl ed wad kd hr cp br n ws th mi nd dr me di re) (hn : n ≤ 3) (hJ : gJ w g) {i : Nat} (hi : i < n) (hy : ws i = (ho, po, ch, lo, ac, bu, sl, may, mp)) {c1 : Nat} (hc1 : c1 ≤ 7) (hp : mpo mp) : ∃ w', am_x 231 [.ref m, .int (nI i), .int (nI c1)] w = some (.inl (some (.int (nI (cnt 144 (mayL may mp c1))))), w') ∧ RM w' g m kd hr cp br n ws 0 mi nd dr me di re ∧ stp 100 800 g g 1 144 w w' := by
  have zW := x99 R (nI i)
  rw [nwk_f hn hi] at zW
  have y1 := fun w => x39 (w := w) (a := 0) (b := 7) (j := c1) (by decide) (Nat.zero_le c1) hc1
  obtain ⟨w1, a1, R1, f1⟩ := x96 R hn false (c := 1) (by decide)
  have a1' : am_x 96 [.ref m, .int (nI 0), .int (nI 1)] w = _ := a1
  obtain ⟨w2, a2, R2, f2⟩ := x40 R1 hn false (c := 2) (by decide)
  have a2' : am_x 40 [.ref m, .int (nI 0), .int (nI 2)] w1 = _ := a2
  have s2 := stp_frm (lo := 100) (hi := 800) hJ (frm_tr f1 f2) (by decide) (by decide)
  have v := x150 (rm_L R2) hn hi
  have hw := rm_get R2 hi hy
  have kw := mk_kf hw
  obtain ⟨w9, q9, e9, r9⟩ := x211e (stp_J s2) hp hw (t := c1) (by omega)
  have R9 := rm_ext R2 hn (stp_J s2) e9
  refine ⟨w9, ?_, ⟨_, _, _, _, _, _, _, R9⟩, stp_wk (stp_tr s2 (stp_ext (stp_J s2) e9)) (by omega) (by omega)⟩
  simp only [bk231_0, bk231_6, bk231_10, bk231_36, bk231_13, bk231_58, bk231_21, bk231_28, bk231_24, bk231_29, bk231_33, bk231_40, bk231_44, bk231_48, bk231_51, bk231_55, bx231, zW, y1, rm_kf R, a1, a1', rm_kf R1, a2, a2', v, kw,  one_0, b2i_0, reduceCtorEq, not_true_eq_false, not_false_eq_true, gfc R2.1, oM_0, oM_1, oM_2, oM_3, oM_4, oM_5, oM_6, oM_7, oM_8, oM_9, oM_10, oM_11, rm_kf R2, rm_lk R2, q9, r9, Option.bind_some, bct_v, bct_t, otl_s, otl_n, List.cons_append, List.nil_append, List.getElem?_cons_zero, List.getElem?_cons_succ, ↓reduceIte]

theorem y231a (R : RMx w g m kq hq ca ba wl ed wad kd hr cp br n ws th mi nd dr me di re) (hn : n ≤ 3) (hJ : gJ w g) {z0 : Int32} (hz0 : z0 < nI 0 ∨ nI n ≤ z0) {z1 : Int32} : ∃ w', am_x 231 [.ref m, .int z0, .int z1] w = some (.inl (some (.int (nI 0))), w') ∧ RM w' g m kd hr cp br n ws 1 mi nd dr me di re ∧ stp 100 800 g g 0 0 w w' := by
  have zW := x99 R z0
  rw [nwk_t hn hz0] at zW
  obtain ⟨w1, a1, R1, f1⟩ := x96 R hn true (c := 1) (by decide)
  have a1' : am_x 96 [.ref m, .int (nI 1), .int (nI 1)] w = _ := a1
  refine ⟨w1, ?_, ⟨_, _, _, _, _, _, _, R1⟩, stp_frm hJ f1 (by decide) (by decide)⟩
  simp only [bk231_0, bk231_6, bk231_10, bk231_36, bk231_13, bk231_58, bk231_21, bk231_28, bk231_24, bk231_29, bk231_33, bk231_40, bk231_44, bk231_48, bk231_51, bk231_55, bx231, zW, rm_kf R, a1, a1', one_0, b2i_0, reduceCtorEq, not_true_eq_false, not_false_eq_true, Option.bind_some, bct_v, bct_t, otl_s, otl_n, List.cons_append, List.nil_append, List.getElem?_cons_zero, List.getElem?_cons_succ, ↓reduceIte]

theorem y231b (R : RMx w g m kq hq ca ba wl ed wad kd hr cp br n ws th mi nd dr me di re) (hn : n ≤ 3) (hJ : gJ w g) {i : Nat} (hi : i < n) {z1 : Int32} (hz1 : z1 < nI 0 ∨ nI 7 < z1) : ∃ w', am_x 231 [.ref m, .int (nI i), .int z1] w = some (.inl (some (.int (nI 0))), w') ∧ RM w' g m kd hr cp br n ws 2 mi nd dr me di re ∧ stp 100 800 g g 0 0 w w' := by
  have zW := x99 R (nI i)
  rw [nwk_f hn hi] at zW
  have y1 := fun w => x39n (w := w) hz1
  obtain ⟨w1, a1, R1, f1⟩ := x96 R hn false (c := 1) (by decide)
  have a1' : am_x 96 [.ref m, .int (nI 0), .int (nI 1)] w = _ := a1
  obtain ⟨w2, a2, R2, f2⟩ := x40 R1 hn true (c := 2) (by decide)
  have a2' : am_x 40 [.ref m, .int (nI 1), .int (nI 2)] w1 = _ := a2
  refine ⟨w2, ?_, ⟨_, _, _, _, _, _, _, R2⟩, stp_frm hJ (frm_tr f1 f2) (by decide) (by decide)⟩
  simp only [bk231_0, bk231_6, bk231_10, bk231_36, bk231_13, bk231_58, bk231_21, bk231_28, bk231_24, bk231_29, bk231_33, bk231_40, bk231_44, bk231_48, bk231_51, bk231_55, bx231, zW, y1, rm_kf R, a1, a1', rm_kf R1, a2, a2', one_0, b2i_0, reduceCtorEq, not_true_eq_false, not_false_eq_true, Option.bind_some, bct_v, bct_t, otl_s, otl_n, List.cons_append, List.nil_append, List.getElem?_cons_zero, List.getElem?_cons_succ, ↓reduceIte]

theorem y232 (R : RMx w g m kq hq ca ba wl ed wad kd hr cp br n ws th mi nd dr me di re) (hn : n ≤ 3) (hJ : gJ w g) {c0 : Nat} (hc0 : c0 ≤ 35) {c1 : Nat} (hc1 : c1 ≤ 3) (hk : kdok kd) (hh : hrok hr) (hm : mi ≤ 3000) : ∃ w', am_x 232 [.ref m, .int (nI c0), .int (nI c1)] w = some (.inl (some (.int (nI (fltS kd hr (mi / 60 % 24) c0 c1)))), w') ∧ RM w' g m kd hr cp br n ws 0 mi nd dr me di re ∧ stp 100 800 g g 0 0 w w' := by
  have y0 := fun w => x97 (w := w) hc0
  have y1 := fun w => x98 (w := w) hc1
  obtain ⟨w1, a1, R1, f1⟩ := x96 R hn false (c := 1) (by decide)
  have a1' : am_x 96 [.ref m, .int (nI 0), .int (nI 1)] w = _ := a1
  obtain ⟨w2, a2, R2, f2⟩ := x40 R1 hn false (c := 2) (by decide)
  have a2' : am_x 40 [.ref m, .int (nI 0), .int (nI 2)] w1 = _ := a2
  have s2 := stp_frm (lo := 100) (hi := 800) hJ (frm_tr f1 f2) (by decide) (by decide)
  have q9 := x210 R2 hk hh hm (c := c0) (s := c1) (by omega) (by omega)
  refine ⟨w2, ?_, ⟨_, _, _, _, _, _, _, R2⟩, s2⟩
  simp only [bk232_0, bk232_5, bk232_9, bk232_24, bk232_12, bk232_34, bk232_17, bk232_21, bk232_28, bx232, y0, y1, rm_kf R, a1, a1', rm_kf R1, a2, a2',  one_0, b2i_0, reduceCtorEq, not_true_eq_false, not_false_eq_true, gfc R2.1, oM_0, oM_1, oM_2, oM_3, oM_4, oM_5, oM_6, oM_7, oM_8, oM_9, oM_10, oM_11, rm_kf R2, rm_lk R2, q9, Option.bind_some, bct_v, bct_t, otl_s, otl_n, List.cons_append, List.nil_append, List.getElem?_cons_zero, List.getElem?_cons_succ, ↓reduceIte]

theorem y232a (R : RMx w g m kq hq ca ba wl ed wad kd hr cp br n ws th mi nd dr me di re) (hn : n ≤ 3) (hJ : gJ w g) {z0 : Int32} (hz0 : z0 < nI 0 ∨ nI 35 < z0) {z1 : Int32} : ∃ w', am_x 232 [.ref m, .int z0, .int z1] w = some (.inl (some (.int (nI 0))), w') ∧ RM w' g m kd hr cp br n ws 1 mi nd dr me di re ∧ stp 100 800 g g 0 0 w w' := by
  have y0 := fun w => x97n (w := w) hz0
  obtain ⟨w1, a1, R1, f1⟩ := x96 R hn true (c := 1) (by decide)
  have a1' : am_x 96 [.ref m, .int (nI 1), .int (nI 1)] w = _ := a1
  refine ⟨w1, ?_, ⟨_, _, _, _, _, _, _, R1⟩, stp_frm hJ f1 (by decide) (by decide)⟩
  simp only [bk232_0, bk232_5, bk232_9, bk232_24, bk232_12, bk232_34, bk232_17, bk232_21, bk232_28, bx232, y0, rm_kf R, a1, a1', one_0, b2i_0, reduceCtorEq, not_true_eq_false, not_false_eq_true, Option.bind_some, bct_v, bct_t, otl_s, otl_n, List.cons_append, List.nil_append, List.getElem?_cons_zero, List.getElem?_cons_succ, ↓reduceIte]

theorem y232b (R : RMx w g m kq hq ca ba wl ed wad kd hr cp br n ws th mi nd dr me di re) (hn : n ≤ 3) (hJ : gJ w g) {c0 : Nat} (hc0 : c0 ≤ 35) {z1 : Int32} (hz1 : z1 < nI 0 ∨ nI 3 < z1) : ∃ w', am_x 232 [.ref m, .int (nI c0), .int z1] w = some (.inl (some (.int (nI 0))), w') ∧ RM w' g m kd hr cp br n ws 2 mi nd dr me di re ∧ stp 100 800 g g 0 0 w w' := by
  have y0 := fun w => x97 (w := w) hc0
  have y1 := fun w => x98n (w := w) hz1
  obtain ⟨w1, a1, R1, f1⟩ := x96 R hn false (c := 1) (by decide)
  have a1' : am_x 96 [.ref m, .int (nI 0), .int (nI 1)] w = _ := a1
  obtain ⟨w2, a2, R2, f2⟩ := x40 R1 hn true (c := 2) (by decide)
  have a2' : am_x 40 [.ref m, .int (nI 1), .int (nI 2)] w1 = _ := a2
  refine ⟨w2, ?_, ⟨_, _, _, _, _, _, _, R2⟩, stp_frm hJ (frm_tr f1 f2) (by decide) (by decide)⟩
  simp only [bk232_0, bk232_5, bk232_9, bk232_24, bk232_12, bk232_34, bk232_17, bk232_21, bk232_28, bx232, y0, y1, rm_kf R, a1, a1', rm_kf R1, a2, a2', one_0, b2i_0, reduceCtorEq, not_true_eq_false, not_false_eq_true, Option.bind_some, bct_v, bct_t, otl_s, otl_n, List.cons_append, List.nil_append, List.getElem?_cons_zero, List.getElem?_cons_succ, ↓reduceIte]

theorem x230e {a x k : Nat} (hJ : gJ w g) (hp : mpo mp) (h : Mkv w g i a (ho, po, ch, lo, ac, bu, sl, may, mp)) (hk : k ≤ 3) : ∃ w', am_x 230 [.ref x, .ref a, .int (nI k)] w = some (.inl (some (.int (nI (wrsW may mp k)))), w') ∧ ext w w' 8 1152 := by
  obtain ⟨w1, a1, e1⟩ := x230 hJ hp h (x := x) hk
  have : c230 k ≤ 8 := by unfold c230; split; decide; split <;> decide
  exact ⟨w1, a1, ext_wk e1 (by omega) (by omega)⟩

theorem y247 (R : RMx w g m kq hq ca ba wl ed wad kd hr cp br n ws th mi nd dr me di re) (hn : n ≤ 3) (hJ : gJ w g) {i : Nat} (hi : i < n) (hy : ws i = (ho, po, ch, lo, ac, bu, sl, may, mp)) {c1 : Nat} (hc1 : c1 ≤ 3) (hp : mpo mp) : ∃ w', am_x 247 [.ref m, .int (nI i), .int (nI c1)] w = some (.inl (some (.int (nI (wrsW may mp c1)))), w') ∧ RM w' g m kd hr cp br n ws 0 mi nd dr me di re ∧ stp 100 800 g g 8 1152 w w' := by
  have zW := x99 R (nI i)
  rw [nwk_f hn hi] at zW
  have y1 := fun w => x39 (w := w) (a := 0) (b := 3) (j := c1) (by decide) (Nat.zero_le c1) hc1
  obtain ⟨w1, a1, R1, f1⟩ := x96 R hn false (c := 1) (by decide)
  have a1' : am_x 96 [.ref m, .int (nI 0), .int (nI 1)] w = _ := a1
  obtain ⟨w2, a2, R2, f2⟩ := x40 R1 hn false (c := 2) (by decide)
  have a2' : am_x 40 [.ref m, .int (nI 0), .int (nI 2)] w1 = _ := a2
  have s2 := stp_frm (lo := 100) (hi := 800) hJ (frm_tr f1 f2) (by decide) (by decide)
  have v := x150 (rm_L R2) hn hi
  have hw := rm_get R2 hi hy
  have kw := mk_kf hw
  obtain ⟨w9, q9, e9⟩ := x230e (stp_J s2) hp hw (x := m) hc1
  have R9 := rm_ext R2 hn (stp_J s2) e9
  refine ⟨w9, ?_, ⟨_, _, _, _, _, _, _, R9⟩, stp_wk (stp_tr s2 (stp_ext (stp_J s2) e9)) (by omega) (by omega)⟩
  simp only [bk247_0, bk247_6, bk247_10, bk247_35, bk247_13, bk247_55, bk247_20, bk247_27, bk247_23, bk247_28, bk247_32, bk247_39, bk247_44, bk247_48, bk247_51, bx247, zW, y1, rm_kf R, a1, a1', rm_kf R1, a2, a2', v, kw,  one_0, b2i_0, reduceCtorEq, not_true_eq_false, not_false_eq_true, gfc R2.1, oM_0, oM_1, oM_2, oM_3, oM_4, oM_5, oM_6, oM_7, oM_8, oM_9, oM_10, oM_11, rm_kf R2, rm_lk R2, q9, Option.bind_some, bct_v, bct_t, otl_s, otl_n, List.cons_append, List.nil_append, List.getElem?_cons_zero, List.getElem?_cons_succ, ↓reduceIte]

theorem y247a (R : RMx w g m kq hq ca ba wl ed wad kd hr cp br n ws th mi nd dr me di re) (hn : n ≤ 3) (hJ : gJ w g) {z0 : Int32} (hz0 : z0 < nI 0 ∨ nI n ≤ z0) {z1 : Int32} : ∃ w', am_x 247 [.ref m, .int z0, .int z1] w = some (.inl (some (.int (nI 0))), w') ∧ RM w' g m kd hr cp br n ws 1 mi nd dr me di re ∧ stp 100 800 g g 0 0 w w' := by
  have zW := x99 R z0
  rw [nwk_t hn hz0] at zW
  obtain ⟨w1, a1, R1, f1⟩ := x96 R hn true (c := 1) (by decide)
  have a1' : am_x 96 [.ref m, .int (nI 1), .int (nI 1)] w = _ := a1
  refine ⟨w1, ?_, ⟨_, _, _, _, _, _, _, R1⟩, stp_frm hJ f1 (by decide) (by decide)⟩
  simp only [bk247_0, bk247_6, bk247_10, bk247_35, bk247_13, bk247_55, bk247_20, bk247_27, bk247_23, bk247_28, bk247_32, bk247_39, bk247_44, bk247_48, bk247_51, bx247, zW, rm_kf R, a1, a1', one_0, b2i_0, reduceCtorEq, not_true_eq_false, not_false_eq_true, Option.bind_some, bct_v, bct_t, otl_s, otl_n, List.cons_append, List.nil_append, List.getElem?_cons_zero, List.getElem?_cons_succ, ↓reduceIte]

theorem y247b (R : RMx w g m kq hq ca ba wl ed wad kd hr cp br n ws th mi nd dr me di re) (hn : n ≤ 3) (hJ : gJ w g) {i : Nat} (hi : i < n) {z1 : Int32} (hz1 : z1 < nI 0 ∨ nI 3 < z1) : ∃ w', am_x 247 [.ref m, .int (nI i), .int z1] w = some (.inl (some (.int (nI 0))), w') ∧ RM w' g m kd hr cp br n ws 2 mi nd dr me di re ∧ stp 100 800 g g 0 0 w w' := by
  have zW := x99 R (nI i)
  rw [nwk_f hn hi] at zW
  have y1 := fun w => x39n (w := w) hz1
  obtain ⟨w1, a1, R1, f1⟩ := x96 R hn false (c := 1) (by decide)
  have a1' : am_x 96 [.ref m, .int (nI 0), .int (nI 1)] w = _ := a1
  obtain ⟨w2, a2, R2, f2⟩ := x40 R1 hn true (c := 2) (by decide)
  have a2' : am_x 40 [.ref m, .int (nI 1), .int (nI 2)] w1 = _ := a2
  refine ⟨w2, ?_, ⟨_, _, _, _, _, _, _, R2⟩, stp_frm hJ (frm_tr f1 f2) (by decide) (by decide)⟩
  simp only [bk247_0, bk247_6, bk247_10, bk247_35, bk247_13, bk247_55, bk247_20, bk247_27, bk247_23, bk247_28, bk247_32, bk247_39, bk247_44, bk247_48, bk247_51, bx247, zW, y1, rm_kf R, a1, a1', rm_kf R1, a2, a2', one_0, b2i_0, reduceCtorEq, not_true_eq_false, not_false_eq_true, Option.bind_some, bct_v, bct_t, otl_s, otl_n, List.cons_append, List.nil_append, List.getElem?_cons_zero, List.getElem?_cons_succ, ↓reduceIte]

theorem y252 (R : RMx w g m kq hq ca ba wl ed wad kd hr cp br n ws th mi nd dr me di re) (hn : n ≤ 3) (hJ : gJ w g) {i : Nat} (hi : i < n) (hy : ws i = (ho, po, ch, lo, ac, bu, sl, may, mp)) (hp : mpo mp) : ∃ w', am_x 252 [.ref m, .int (nI i)] w = some (.inl (some (.int (nI (bstS may mp 3)))), w') ∧ RM w' g m kd hr cp br n ws 0 mi nd dr me di re ∧ stp 100 800 g g 14 2016 w w' := by
  have zW := x99 R (nI i)
  rw [nwk_f hn hi] at zW
  obtain ⟨w1, a1, R1, f1⟩ := x96 R hn false (c := 1) (by decide)
  have a1' : am_x 96 [.ref m, .int (nI 0), .int (nI 1)] w = _ := a1
  have s1 := stp_frm (lo := 100) (hi := 800) hJ f1 (by decide) (by decide)
  have v := x150 (rm_L R1) hn hi
  have hw := rm_get R1 hi hy
  have kw := mk_kf hw
  obtain ⟨w9, q9, e9⟩ := x248 R1 hn (stp_J s1) hi hy hp
  have R9 := rm_ext R1 hn (stp_J s1) e9
  refine ⟨w9, ?_, ⟨_, _, _, _, _, _, _, R9⟩, stp_wk (stp_tr s1 (stp_ext (stp_J s1) e9)) (by omega) (by omega)⟩
  simp only [bk252_0, bk252_6, bk252_10, bk252_17, bk252_13, bk252_22, bk252_32, bk252_26, bk252_29, bx252, zW, rm_kf R, a1, a1', v, kw,  one_0, b2i_0, reduceCtorEq, not_true_eq_false, not_false_eq_true, gfc R1.1, oM_0, oM_1, oM_2, oM_3, oM_4, oM_5, oM_6, oM_7, oM_8, oM_9, oM_10, oM_11, rm_kf R1, rm_lk R1, q9, Option.bind_some, bct_v, bct_t, otl_s, otl_n, List.cons_append, List.nil_append, List.getElem?_cons_zero, List.getElem?_cons_succ, ↓reduceIte]

theorem y252a (R : RMx w g m kq hq ca ba wl ed wad kd hr cp br n ws th mi nd dr me di re) (hn : n ≤ 3) (hJ : gJ w g) {z0 : Int32} (hz0 : z0 < nI 0 ∨ nI n ≤ z0) : ∃ w', am_x 252 [.ref m, .int z0] w = some (.inl (some (.int (nI 0))), w') ∧ RM w' g m kd hr cp br n ws 1 mi nd dr me di re ∧ stp 100 800 g g 0 0 w w' := by
  have zW := x99 R z0
  rw [nwk_t hn hz0] at zW
  obtain ⟨w1, a1, R1, f1⟩ := x96 R hn true (c := 1) (by decide)
  have a1' : am_x 96 [.ref m, .int (nI 1), .int (nI 1)] w = _ := a1
  refine ⟨w1, ?_, ⟨_, _, _, _, _, _, _, R1⟩, stp_frm hJ f1 (by decide) (by decide)⟩
  simp only [bk252_0, bk252_6, bk252_10, bk252_17, bk252_13, bk252_22, bk252_32, bk252_26, bk252_29, bx252, zW, rm_kf R, a1, a1', one_0, b2i_0, reduceCtorEq, not_true_eq_false, not_false_eq_true, Option.bind_some, bct_v, bct_t, otl_s, otl_n, List.cons_append, List.nil_append, List.getElem?_cons_zero, List.getElem?_cons_succ, ↓reduceIte]

def c259 (k : Nat) : Nat := if k = 1 then 2 else if k = 2 then 4 else 1
theorem x259p (R : RMx w g m kq hq ca ba wl ed wad kd hr cp br n ws th mi nd dr me di re) (hn : n ≤ 3) (hJ : gJ w g) (hi : i < n) (hy : ws i = (ho, po, ch, lo, ac, bu, sl, may, mp)) (hp : mpo mp) (hho : ho < 36) {k : Nat} (hk : k ≤ 3) : ∃ w', am_x 259 [.ref m, .ref (wad i), .int (nI k)] w = some (.inl (some (.int (sftS (ws i) k))), w') ∧ ext w w' (c259 k) (36 * c259 k) := by
  rw [hy]
  rcases (show k = 0 ∨ k = 1 ∨ k = 2 ∨ k = 3 by omega) with rfl | rfl | rfl | rfl
  · obtain ⟨w1, a1, e1⟩ := x226 R hJ hi hy hp hho
    refine ⟨w1, ?_, ext_wk e1 (by decide) (by decide)⟩
    simp only [bk259_0, bk259_12, bk259_4, bk259_25, bk259_17, bk259_9, bk259_46, bk259_30, bk259_22, bk259_51, bk259_35, bk259_42, bk259_38, bx259, rm_kf R, a1, nI_eqS (show 0 < 2147483648 by decide) (show 0 < 2147483648 by decide), not_true_eq_false, Option.bind_some, bct_v, bct_t, otl_s, otl_n, List.cons_append, List.nil_append, List.getElem?_cons_zero, List.getElem?_cons_succ, ↓reduceIte]
    rfl
  · obtain ⟨w1, a1, e1⟩ := x245 R hn hJ hi hy hp hho
    refine ⟨w1, ?_, ext_wk e1 (by decide) (by decide)⟩
    simp only [bk259_0, bk259_12, bk259_4, bk259_25, bk259_17, bk259_9, bk259_46, bk259_30, bk259_22, bk259_51, bk259_35, bk259_42, bk259_38, bx259, rm_kf R, a1, one_0, not_false_eq_true, not_true_eq_false, Option.bind_some, bct_v, bct_t, otl_s, otl_n, List.cons_append, List.nil_append, List.getElem?_cons_zero, List.getElem?_cons_succ, ↓reduceIte]
    rfl
  · obtain ⟨w1, a1, e1⟩ := x251 R hn hJ hi hy hp hho
    refine ⟨w1, ?_, ext_wk e1 (by decide) (by decide)⟩
    rw [show sftS (ho, po, ch, lo, ac, bu, sl, may, mp) 2 = b2i (safeB ch (costI (wayW may mp ho))) from rfl]
    cases q : safeB ch (costI (wayW may mp ho)) with
    | true =>
      rw [q] at a1
      simp only [bk259_0, bk259_12, bk259_4, bk259_25, bk259_17, bk259_9, bk259_46, bk259_30, bk259_22, bk259_51, bk259_35, bk259_42, bk259_38, bx259, rm_kf R, a1, nI_eqS (show 2 < 2147483648 by decide) (show 0 < 2147483648 by decide), nI_eqS (show 2 < 2147483648 by decide) (show 1 < 2147483648 by decide), show ¬ 2 = 0 from by decide, show ¬ 2 = 1 from by decide, not_false_eq_true, not_true_eq_false, b2i_0, reduceCtorEq, Option.bind_some, bct_v, bct_t, otl_s, otl_n, List.cons_append, List.nil_append, List.getElem?_cons_zero, List.getElem?_cons_succ, ↓reduceIte]
      rfl
    | false =>
      rw [q] at a1
      simp only [bk259_0, bk259_12, bk259_4, bk259_25, bk259_17, bk259_9, bk259_46, bk259_30, bk259_22, bk259_51, bk259_35, bk259_42, bk259_38, bx259, rm_kf R, a1, nI_eqS (show 2 < 2147483648 by decide) (show 0 < 2147483648 by decide), nI_eqS (show 2 < 2147483648 by decide) (show 1 < 2147483648 by decide), show ¬ 2 = 0 from by decide, show ¬ 2 = 1 from by decide, not_false_eq_true, not_true_eq_false, b2i_0, Option.bind_some, bct_v, bct_t, otl_s, otl_n, List.cons_append, List.nil_append, List.getElem?_cons_zero, List.getElem?_cons_succ, ↓reduceIte]
      rfl
  · obtain ⟨w1, a1, e1⟩ := x229 R hJ hi hy hp
    refine ⟨w1, ?_, ext_wk e1 (by decide) (by decide)⟩
    simp only [bk259_0, bk259_12, bk259_4, bk259_25, bk259_17, bk259_9, bk259_46, bk259_30, bk259_22, bk259_51, bk259_35, bk259_42, bk259_38, bx259, rm_kf R, a1, nI_eqS (show 3 < 2147483648 by decide) (show 0 < 2147483648 by decide), nI_eqS (show 3 < 2147483648 by decide) (show 1 < 2147483648 by decide), nI_eqS (show 3 < 2147483648 by decide) (show 2 < 2147483648 by decide), show ¬ 3 = 0 from by decide, show ¬ 3 = 1 from by decide, show ¬ 3 = 2 from by decide, not_false_eq_true, Option.bind_some, bct_v, bct_t, otl_s, otl_n, List.cons_append, List.nil_append, List.getElem?_cons_zero, List.getElem?_cons_succ, ↓reduceIte]
    rfl
theorem x259 (R : RMx w g m kq hq ca ba wl ed wad kd hr cp br n ws th mi nd dr me di re) (hn : n ≤ 3) (hJ : gJ w g) (hi : i < n) (hy : ws i = (ho, po, ch, lo, ac, bu, sl, may, mp)) (hp : mpo mp) (hho : ho < 36) {k : Nat} (hk : k ≤ 3) : ∃ w', am_x 259 [.ref m, .ref (wad i), .int (nI k)] w = some (.inl (some (.int (sftS (ws i) k))), w') ∧ ext w w' 4 144 := by
  obtain ⟨w1, a1, e1⟩ := x259p R hn hJ hi hy hp hho hk
  have : c259 k ≤ 4 := by unfold c259; split; decide; split <;> decide
  exact ⟨w1, a1, ext_wk e1 (by omega) (by omega)⟩

theorem y264 (R : RMx w g m kq hq ca ba wl ed wad kd hr cp br n ws th mi nd dr me di re) (hn : n ≤ 3) (hJ : gJ w g) {i : Nat} (hi : i < n) (hy : ws i = (ho, po, ch, lo, ac, bu, sl, may, mp)) {c1 : Nat} (hc1 : c1 ≤ 3) (hp : mpo mp) (hho : ho < 36) : ∃ w', am_x 264 [.ref m, .int (nI i), .int (nI c1)] w = some (.inl (some (.int (sftS (ws i) c1))), w') ∧ RM w' g m kd hr cp br n ws 0 mi nd dr me di re ∧ stp 100 800 g g 4 144 w w' := by
  have zW := x99 R (nI i)
  rw [nwk_f hn hi] at zW
  have y1 := fun w => x39 (w := w) (a := 0) (b := 3) (j := c1) (by decide) (Nat.zero_le c1) hc1
  obtain ⟨w1, a1, R1, f1⟩ := x96 R hn false (c := 1) (by decide)
  have a1' : am_x 96 [.ref m, .int (nI 0), .int (nI 1)] w = _ := a1
  obtain ⟨w2, a2, R2, f2⟩ := x40 R1 hn false (c := 2) (by decide)
  have a2' : am_x 40 [.ref m, .int (nI 0), .int (nI 2)] w1 = _ := a2
  have s2 := stp_frm (lo := 100) (hi := 800) hJ (frm_tr f1 f2) (by decide) (by decide)
  have v := x150 (rm_L R2) hn hi
  have hw := rm_get R2 hi hy
  have kw := mk_kf hw
  obtain ⟨w9, q9, e9⟩ := x259 R2 hn (stp_J s2) hi hy hp hho hc1
  have R9 := rm_ext R2 hn (stp_J s2) e9
  refine ⟨w9, ?_, ⟨_, _, _, _, _, _, _, R9⟩, stp_wk (stp_tr s2 (stp_ext (stp_J s2) e9)) (by omega) (by omega)⟩
  simp only [bk264_0, bk264_6, bk264_10, bk264_35, bk264_13, bk264_55, bk264_20, bk264_27, bk264_23, bk264_28, bk264_32, bk264_39, bk264_44, bk264_48, bk264_51, bx264, zW, y1, rm_kf R, a1, a1', rm_kf R1, a2, a2', v, kw,  one_0, b2i_0, reduceCtorEq, not_true_eq_false, not_false_eq_true, gfc R2.1, oM_0, oM_1, oM_2, oM_3, oM_4, oM_5, oM_6, oM_7, oM_8, oM_9, oM_10, oM_11, rm_kf R2, rm_lk R2, q9, Option.bind_some, bct_v, bct_t, otl_s, otl_n, List.cons_append, List.nil_append, List.getElem?_cons_zero, List.getElem?_cons_succ, ↓reduceIte]

theorem y264a (R : RMx w g m kq hq ca ba wl ed wad kd hr cp br n ws th mi nd dr me di re) (hn : n ≤ 3) (hJ : gJ w g) {z0 : Int32} (hz0 : z0 < nI 0 ∨ nI n ≤ z0) {z1 : Int32} : ∃ w', am_x 264 [.ref m, .int z0, .int z1] w = some (.inl (some (.int (nI 0))), w') ∧ RM w' g m kd hr cp br n ws 1 mi nd dr me di re ∧ stp 100 800 g g 0 0 w w' := by
  have zW := x99 R z0
  rw [nwk_t hn hz0] at zW
  obtain ⟨w1, a1, R1, f1⟩ := x96 R hn true (c := 1) (by decide)
  have a1' : am_x 96 [.ref m, .int (nI 1), .int (nI 1)] w = _ := a1
  refine ⟨w1, ?_, ⟨_, _, _, _, _, _, _, R1⟩, stp_frm hJ f1 (by decide) (by decide)⟩
  simp only [bk264_0, bk264_6, bk264_10, bk264_35, bk264_13, bk264_55, bk264_20, bk264_27, bk264_23, bk264_28, bk264_32, bk264_39, bk264_44, bk264_48, bk264_51, bx264, zW, rm_kf R, a1, a1', one_0, b2i_0, reduceCtorEq, not_true_eq_false, not_false_eq_true, Option.bind_some, bct_v, bct_t, otl_s, otl_n, List.cons_append, List.nil_append, List.getElem?_cons_zero, List.getElem?_cons_succ, ↓reduceIte]

theorem y264b (R : RMx w g m kq hq ca ba wl ed wad kd hr cp br n ws th mi nd dr me di re) (hn : n ≤ 3) (hJ : gJ w g) {i : Nat} (hi : i < n) {z1 : Int32} (hz1 : z1 < nI 0 ∨ nI 3 < z1) : ∃ w', am_x 264 [.ref m, .int (nI i), .int z1] w = some (.inl (some (.int (nI 0))), w') ∧ RM w' g m kd hr cp br n ws 2 mi nd dr me di re ∧ stp 100 800 g g 0 0 w w' := by
  have zW := x99 R (nI i)
  rw [nwk_f hn hi] at zW
  have y1 := fun w => x39n (w := w) hz1
  obtain ⟨w1, a1, R1, f1⟩ := x96 R hn false (c := 1) (by decide)
  have a1' : am_x 96 [.ref m, .int (nI 0), .int (nI 1)] w = _ := a1
  obtain ⟨w2, a2, R2, f2⟩ := x40 R1 hn true (c := 2) (by decide)
  have a2' : am_x 40 [.ref m, .int (nI 1), .int (nI 2)] w1 = _ := a2
  refine ⟨w2, ?_, ⟨_, _, _, _, _, _, _, R2⟩, stp_frm hJ (frm_tr f1 f2) (by decide) (by decide)⟩
  simp only [bk264_0, bk264_6, bk264_10, bk264_35, bk264_13, bk264_55, bk264_20, bk264_27, bk264_23, bk264_28, bk264_32, bk264_39, bk264_44, bk264_48, bk264_51, bx264, zW, y1, rm_kf R, a1, a1', rm_kf R1, a2, a2', one_0, b2i_0, reduceCtorEq, not_true_eq_false, not_false_eq_true, Option.bind_some, bct_v, bct_t, otl_s, otl_n, List.cons_append, List.nil_append, List.getElem?_cons_zero, List.getElem?_cons_succ, ↓reduceIte]

theorem y215 (R : RMx w g m kq hq ca ba wl ed wad kd hr cp br n ws th mi nd dr me di re) (hn : n ≤ 3) (hJ : gJ w g) (hk : kdok kd) (hh : hrok hr) (hm : mi ≤ 3000) (ho : ∀ i, i < n → okY (ws i)) : ∃ w', am_x 215 [.ref m] w = some (.inl (some (.int (b2i (sndRS kd hr (mi / 60 % 24) n ws)))), w') ∧ RM w' g m kd hr cp br n ws 0 mi nd dr me di re ∧ stp 100 800 g g 13 160 w w' := by
  obtain ⟨R1, f1⟩ := rm_m (th' := 0) (mi' := mi) (nd' := nd) (dr' := dr) (me' := me) (di' := di) (re' := re) R hn
  have p1 : am_pf w m 11 0 (.int (nI 0)) = some (am_pt w m (.inr (11, oM 0 mi nd dr me di re kq hq ca ba wl))) := pfc R.1 (by show 0 < 12; decide) (by decide)
  have s1 := stp_frm (lo := 100) (hi := 800) hJ f1 (by decide) (by decide)
  obtain ⟨w2, a2, e2⟩ := x186 R1 (stp_J s1) hn hk hh hm ho
  refine ⟨w2, ?_, ⟨_, _, _, _, _, _, _, rm_ext R1 hn (stp_J s1) e2⟩, stp_wk (stp_tr s1 (stp_ext (stp_J s1) e2)) (by omega) (by omega)⟩
  simp only [bx215, bk215_0, p1, bk215_5, rm_kf R1, a2, Option.bind_some, bct_v, bct_t, otl_s, otl_n, List.cons_append, List.nil_append, List.getElem?_cons_zero, List.getElem?_cons_succ, ↓reduceIte]
  exact bk215_9 (by cases sndRS kd hr (mi / 60 % 24) n ws <;> rfl)

end CO
