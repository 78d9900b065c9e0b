/-! THE REFERENCE'S CALLS: edge, lay. Mine. -/
section CD
variable {w : am_Wd} {g : Nat → Nat} {m kq hq ca ba wl ed : Nat} {wad : Nat → Nat} {kd hr : Nat → Nat} {cp br : Nat → Bool} {n : Nat} {ws : Nat → sW} {th mi nd : Nat} {dr me di re : Int32}
variable {i a ho po ch : Nat} {lo ac bu sl : Int32} {may : Nat → Bool} {mp : Nat → Nat}
theorem rm_kd (R : RMx w g m kq hq ca ba wl ed wad kd hr cp br n ws th mi nd dr me di re) (hn : n ≤ 3) {c j v : Nat} (hc : c < 36) (hj : j < 2) : ∃ w', am_wi 0 w (kq + 1 + c) (nI j) (nI v) = some w' ∧ RMx w' g m kq hq ca ba wl ed wad (up kd (2 * c + j) v) hr cp br n ws th mi nd dr me di re ∧ frm g 200 236 w w' := by
  obtain ⟨h1, k1, k2, k3, k4, k5, k6, g1, g2, g3, g4, g5, g6⟩ := R
  obtain ⟨w', e, r, f⟩ := k1.put (by omega) hc hj (v := v)
  have he : w'.1 ed = w.1 ed := by
    rcases k5.2 with ⟨-, -, -, e⟩ | ⟨-, e⟩ <;> exact f.1 ed (by omega)
  exact ⟨w', e, ⟨cO_of h1 (f.1 m (by omega)), r, k2.of (f.1 hq (by omega)) (fun b z1 z2 => f.1 b (by omega)), cI_of k3 (f.1 ca (by omega)), cI_of k4 (f.1 ba (by omega)), k5.of (f.1 wl (by omega)) he (by rw [f.2]), fun i hi => (k6 i hi).of (fun b z1 z2 => f.1 b (by omega)) (fun b z1 z2 => f.1 b (by omega)), g1, g2, g3, g4, g5, g6⟩, f⟩
theorem rm_hr (R : RMx w g m kq hq ca ba wl ed wad kd hr cp br n ws th mi nd dr me di re) (hn : n ≤ 3) {c j v : Nat} (hc : c < 36) (hj : j < 2) : ∃ w', am_wi 0 w (hq + 1 + c) (nI j) (nI v) = some w' ∧ RMx w' g m kq hq ca ba wl ed wad kd (up hr (2 * c + j) v) cp br n ws th mi nd dr me di re ∧ frm g 300 336 w w' := by
  obtain ⟨h1, k1, k2, k3, k4, k5, k6, g1, g2, g3, g4, g5, g6⟩ := R
  obtain ⟨w', e, r, f⟩ := k2.put (by omega) hc hj (v := v)
  have he : w'.1 ed = w.1 ed := by
    rcases k5.2 with ⟨-, -, -, e⟩ | ⟨-, e⟩ <;> exact f.1 ed (by omega)
  exact ⟨w', e, ⟨cO_of h1 (f.1 m (by omega)), k1.of (f.1 kq (by omega)) (fun b z1 z2 => f.1 b (by omega)), r, cI_of k3 (f.1 ca (by omega)), cI_of k4 (f.1 ba (by omega)), k5.of (f.1 wl (by omega)) he (by rw [f.2]), fun i hi => (k6 i hi).of (fun b z1 z2 => f.1 b (by omega)) (fun b z1 z2 => f.1 b (by omega)), g1, g2, g3, g4, g5, g6⟩, f⟩
/-- edge -/
theorem y176 (R : RMx w g m kq hq ca ba wl ed wad kd hr cp br n ws th mi nd dr me di re) (hn : n ≤ 3) (hJ : gJ w g) {c s k h d : Nat} (hc : c ≤ 35) (hs : s ≤ 3) (hk2 : k ≤ 2) (hh2 : h ≤ 16777215) (hb : nb c s = some d) :
    ∃ w', am_x 176 [.ref m, .int (nI c), .int (nI s), .int (nI k), .int (nI h)] w = some (.inl (some (.int (nI (kd (plc c s))))), w') ∧ RM w' g m (up kd (plc c s) k) (up hr (plc c s) (if k = 2 then h else 0)) cp br n ws 0 mi nd dr me di re ∧ stp 100 800 g g 0 0 w w' := by
  have hc' : c < 36 := by omega
  have hs' : s < 4 := by omega
  have hd := nb_lt hc' hs' hb
  have hkp := kp_lt hc' hs' hb
  have hw := way_lt (s := s)
  obtain ⟨w1, a1, R1, f1⟩ := x96 R hn false (c := 1) (by decide)
  obtain ⟨w2, a2, R2, f2⟩ := x40 R1 hn false (c := 2) (by decide)
  obtain ⟨w3, a3, R3, f3⟩ := rm_kd R2 hn hkp hw (v := k)
  obtain ⟨w4, a4, R4, f4⟩ := rm_hr R3 hn hkp hw (v := if k = 2 then h else 0)
  have a1' : am_x 96 [.ref m, .int (nI 0), .int (nI 1)] w = _ := a1
  have a2' : am_x 40 [.ref m, .int (nI 0), .int (nI 2)] w1 = _ := a2
  have zc := x97 (w := w) hc
  have zs := x98 (w := w) hs
  have zb := fun w => x100 (w := w) hc' hs'
  rw [hb] at zb
  have zb' : ∀ w, am_x 100 [.int (nI c), .int (nI s)] w = some (.inl (some (.int (nI d))), w) := zb
  have zk := fun w => x39g (w := w) (z := nI k) (a := nI 0) (b := nI 2)
  rw [ok_rng (by decide) (Nat.zero_le k) hk2] at zk
  have zh := fun w => x39g (w := w) (z := nI h) (a := nI 0) (b := nI 16777215)
  rw [ok_rng (by decide) (Nat.zero_le h) hh2] at zh
  have zp := fun w => x142 (w := w) hc' hs' hb
  have zw := fun w => x41 (w := w) hs'
  have p2 := R2.2.1.row hkp
  have v2 := R2.2.1.at hkp hw
  have p3 := R3.2.2.1.row hkp
  rw [← plc_at hb] at v2
  have e1 : RM w4 g m (up kd (plc c s) k) (up hr (plc c s) (if k = 2 then h else 0)) cp br n ws 0 mi nd dr me di re := by
    rw [plc_at hb]
    exact ⟨_, _, _, _, _, _, _, R4⟩
  refine ⟨w4, ?_, e1, stp_frm hJ (frm_tr (frm_wk f1 (show 100 ≤ 100 by decide) (show 101 ≤ 336 by decide)) (frm_tr (frm_wk f2 (by decide) (by decide)) (frm_tr (frm_wk f3 (by decide) (by decide)) (frm_wk f4 (by decide) (by decide))))) (Nat.le_refl 100) (show 336 ≤ 800 by decide)⟩
  by_cases q : k = 2
  · have a4' : am_wi 0 w3 (hq + 1 + (if s = 0 ∨ s = 3 then d else c)) (nI (if s = 1 ∨ s = 3 then 0 else 1)) (nI h) = some w4 := by rw [if_pos q] at a4; exact a4
    have ek : (nI k = nI 2) = True := eq_true (congrArg nI q)
    simp only [bk176_0, bk176_5, bk176_15, bk176_8, bk176_20, bk176_12, bk176_24, bk176_19, bk176_29, bk176_27, bk176_35, bk176_59, bk176_39, bk176_64, bk176_45, bk176_68, bk176_48, bk176_73, bk176_71, bk176_56, bk176_78, bk176_63, bk176_84, bk176_87, bk176_91, bk176_92, bk176_98, bk176_101, bk176_105, bk176_107, bk176_111, bk176_114, bk176_118, bk176_128, bk176_123, bk176_129, bk176_130, bx176, zc, zs, rm_kf R, a1', nI_eqS (show 0 < 2147483648 by decide) (show 0 < 2147483648 by decide), not_true_eq_false, zb', nI_m1S (show d < 2147483648 by omega), zk, zh, b2i_0, reduceCtorEq, not_false_eq_true, rm_kf R1, a2', zp, zw, gfc R2.1, gfc R3.1, oM_0, oM_1, oM_2, oM_3, oM_4, oM_5, oM_6, oM_7, oM_8, oM_9, oM_10, oM_11, p2, v2, a3, p3, a4', ek, Option.bind_some, bct_v, bct_t, otl_s, otl_n, List.cons_append, List.nil_append, List.getElem?_cons_zero, List.getElem?_cons_succ, ↓reduceIte]
  · have a4' : am_wi 0 w3 (hq + 1 + (if s = 0 ∨ s = 3 then d else c)) (nI (if s = 1 ∨ s = 3 then 0 else 1)) (nI 0) = some w4 := by rw [if_neg q] at a4; exact a4
    have ek : (nI k = nI 2) = False := by rw [nI_eqS (by omega) (by decide)]; exact eq_false q
    simp only [bk176_0, bk176_5, bk176_15, bk176_8, bk176_20, bk176_12, bk176_24, bk176_19, bk176_29, bk176_27, bk176_35, bk176_59, bk176_39, bk176_64, bk176_45, bk176_68, bk176_48, bk176_73, bk176_71, bk176_56, bk176_78, bk176_63, bk176_84, bk176_87, bk176_91, bk176_92, bk176_98, bk176_101, bk176_105, bk176_107, bk176_111, bk176_114, bk176_118, bk176_128, bk176_123, bk176_129, bk176_130, bx176, zc, zs, rm_kf R, a1', nI_eqS (show 0 < 2147483648 by decide) (show 0 < 2147483648 by decide), not_true_eq_false, zb', nI_m1S (show d < 2147483648 by omega), zk, zh, b2i_0, reduceCtorEq, not_false_eq_true, rm_kf R1, a2', zp, zw, gfc R2.1, gfc R3.1, oM_0, oM_1, oM_2, oM_3, oM_4, oM_5, oM_6, oM_7, oM_8, oM_9, oM_10, oM_11, p2, v2, a3, p3, a4', ek, Option.bind_some, bct_v, bct_t, otl_s, otl_n, List.cons_append, List.nil_append, List.getElem?_cons_zero, List.getElem?_cons_succ, ↓reduceIte]
theorem y176c (R : RMx w g m kq hq ca ba wl ed wad kd hr cp br n ws th mi nd dr me di re) (hn : n ≤ 3) (hJ : gJ w g) {z z2 z3 z4 : Int32} (hz : z < nI 0 ∨ nI 35 < z) : ∃ w', am_x 176 [.ref m, .int z, .int z2, .int z3, .int z4] w = some (.inl (some (.int (nI 0))), w') ∧ RM w' g m kd hr cp br n ws 1 mi nd dr me di re ∧ stp 100 800 g g 0 0 w w' := by
  have z1 := x97n (w := w) hz
  obtain ⟨w1, a1, R1, f1⟩ := x96 R hn true (c := 1) (by decide)
  have a1' : am_x 96 [.ref m, .int (nI 1), .int (nI 1)] w = _ := a1
  refine ⟨w1, ?_, ⟨_, _, _, _, _, _, _, R1⟩, stp_frm hJ f1 (by decide) (by decide)⟩
  simp only [bk176_0, bk176_5, bk176_15, bk176_8, bk176_20, bk176_12, bk176_24, bk176_19, bk176_29, bk176_27, bk176_35, bk176_59, bk176_39, bk176_64, bk176_45, bk176_68, bk176_48, bk176_73, bk176_71, bk176_56, bk176_78, bk176_63, bk176_84, bk176_87, bk176_91, bk176_92, bk176_98, bk176_101, bk176_105, bk176_107, bk176_111, bk176_114, bk176_118, bk176_128, bk176_123, bk176_129, bk176_130, bx176, z1, rm_kf R, a1', nI_eqS (show 1 < 2147483648 by decide) (show 0 < 2147483648 by decide), show ¬ 1 = 0 from by decide, not_false_eq_true, b2i_0, reduceCtorEq, Option.bind_some, bct_v, bct_t, otl_s, otl_n, List.cons_append, List.nil_append, List.getElem?_cons_zero, List.getElem?_cons_succ, ↓reduceIte]
theorem y176s (R : RMx w g m kq hq ca ba wl ed wad kd hr cp br n ws th mi nd dr me di re) (hn : n ≤ 3) (hJ : gJ w g) {c : Nat} (hc : c ≤ 35) {z z3 z4 : Int32} (hz : z < nI 0 ∨ nI 3 < z) : ∃ w', am_x 176 [.ref m, .int (nI c), .int z, .int z3, .int z4] w = some (.inl (some (.int (nI 0))), w') ∧ RM w' g m kd hr cp br n ws 1 mi nd dr me di re ∧ stp 100 800 g g 0 0 w w' := by
  have z1 := x98n (w := w) hz
  obtain ⟨w1, a1, R1, f1⟩ := x96 R hn true (c := 1) (by decide)
  have a1' : am_x 96 [.ref m, .int (nI 1), .int (nI 1)] w = _ := a1
  refine ⟨w1, ?_, ⟨_, _, _, _, _, _, _, R1⟩, stp_frm hJ f1 (by decide) (by decide)⟩
  simp only [bk176_0, bk176_5, bk176_15, bk176_8, bk176_20, bk176_12, bk176_24, bk176_19, bk176_29, bk176_27, bk176_35, bk176_59, bk176_39, bk176_64, bk176_45, bk176_68, bk176_48, bk176_73, bk176_71, bk176_56, bk176_78, bk176_63, bk176_84, bk176_87, bk176_91, bk176_92, bk176_98, bk176_101, bk176_105, bk176_107, bk176_111, bk176_114, bk176_118, bk176_128, bk176_123, bk176_129, bk176_130, bx176, x97 (w := w) hc, z1, rm_kf R, a1', nI_eqS (show 1 < 2147483648 by decide) (show 0 < 2147483648 by decide), show ¬ 1 = 0 from by decide, not_false_eq_true, not_true_eq_false, b2i_0, reduceCtorEq, Option.bind_some, bct_v, bct_t, otl_s, otl_n, List.cons_append, List.nil_append, List.getElem?_cons_zero, List.getElem?_cons_succ, ↓reduceIte]
theorem y176o (R : RMx w g m kq hq ca ba wl ed wad kd hr cp br n ws th mi nd dr me di re) (hn : n ≤ 3) (hJ : gJ w g) {c s : Nat} (hc : c ≤ 35) (hs : s ≤ 3) (hb : nb c s = none) {z3 z4 : Int32} : ∃ w', am_x 176 [.ref m, .int (nI c), .int (nI s), .int z3, .int z4] w = some (.inl (some (.int (nI 0))), w') ∧ RM w' g m kd hr cp br n ws 2 mi nd dr me di re ∧ stp 100 800 g g 0 0 w w' := by
  obtain ⟨w1, a1, R1, f1⟩ := x96 R hn false (c := 1) (by decide)
  obtain ⟨w2, a2, R2, f2⟩ := x40 R1 hn true (c := 2) (by decide)
  have a1' : am_x 96 [.ref m, .int (nI 0), .int (nI 1)] w = _ := a1
  have a2' : am_x 40 [.ref m, .int (nI 1), .int (nI 2)] w1 = _ := a2
  have zb := fun w => x100 (w := w) (c := c) (s := s) (by omega) (by omega)
  rw [hb] at zb
  have zb' : ∀ w, am_x 100 [.int (nI c), .int (nI s)] w = some (.inl (some (.int (-1))), w) := zb
  refine ⟨w2, ?_, ⟨_, _, _, _, _, _, _, R2⟩, stp_frm hJ (frm_tr f1 f2) (by decide) (by decide)⟩
  simp only [bk176_0, bk176_5, bk176_15, bk176_8, bk176_20, bk176_12, bk176_24, bk176_19, bk176_29, bk176_27, bk176_35, bk176_59, bk176_39, bk176_64, bk176_45, bk176_68, bk176_48, bk176_73, bk176_71, bk176_56, bk176_78, bk176_63, bk176_84, bk176_87, bk176_91, bk176_92, bk176_98, bk176_101, bk176_105, bk176_107, bk176_111, bk176_114, bk176_118, bk176_128, bk176_123, bk176_129, bk176_130, bx176, x97 (w := w) hc, x98 (w := w) hs, rm_kf R, a1', nI_eqS (show 0 < 2147483648 by decide) (show 0 < 2147483648 by decide), not_false_eq_true, not_true_eq_false, zb', rm_kf R1, a2', b2i_0, reduceCtorEq, Option.bind_some, bct_v, bct_t, otl_s, otl_n, List.cons_append, List.nil_append, List.getElem?_cons_zero, List.getElem?_cons_succ, ↓reduceIte]
theorem y176k (R : RMx w g m kq hq ca ba wl ed wad kd hr cp br n ws th mi nd dr me di re) (hn : n ≤ 3) (hJ : gJ w g) {c s d : Nat} (hc : c ≤ 35) (hs : s ≤ 3) (hb : nb c s = some d) {z3 z4 : Int32} (hz : z3 < nI 0 ∨ nI 2 < z3) : ∃ w', am_x 176 [.ref m, .int (nI c), .int (nI s), .int z3, .int z4] w = some (.inl (some (.int (nI 0))), w') ∧ RM w' g m kd hr cp br n ws 2 mi nd dr me di re ∧ stp 100 800 g g 0 0 w w' := by
  obtain ⟨w1, a1, R1, f1⟩ := x96 R hn false (c := 1) (by decide)
  obtain ⟨w2, a2, R2, f2⟩ := x40 R1 hn true (c := 2) (by decide)
  have a1' : am_x 96 [.ref m, .int (nI 0), .int (nI 1)] w = _ := a1
  have a2' : am_x 40 [.ref m, .int (nI 1), .int (nI 2)] w1 = _ := a2
  have hd := nb_lt (show c < 36 by omega) (show s < 4 by omega) hb
  have zb := fun w => x100 (w := w) (c := c) (s := s) (by omega) (by omega)
  rw [hb] at zb
  have zb' : ∀ w, am_x 100 [.int (nI c), .int (nI s)] w = some (.inl (some (.int (nI d))), w) := zb
  have zk := fun w => x39g (w := w) (z := z3) (a := nI 0) (b := nI 2)
  rw [ng_rng hz] at zk
  refine ⟨w2, ?_, ⟨_, _, _, _, _, _, _, R2⟩, stp_frm hJ (frm_tr f1 f2) (by decide) (by decide)⟩
  simp only [bk176_0, bk176_5, bk176_15, bk176_8, bk176_20, bk176_12, bk176_24, bk176_19, bk176_29, bk176_27, bk176_35, bk176_59, bk176_39, bk176_64, bk176_45, bk176_68, bk176_48, bk176_73, bk176_71, bk176_56, bk176_78, bk176_63, bk176_84, bk176_87, bk176_91, bk176_92, bk176_98, bk176_101, bk176_105, bk176_107, bk176_111, bk176_114, bk176_118, bk176_128, bk176_123, bk176_129, bk176_130, bx176, x97 (w := w) hc, x98 (w := w) hs, rm_kf R, a1', nI_eqS (show 0 < 2147483648 by decide) (show 0 < 2147483648 by decide), not_false_eq_true, not_true_eq_false, zb', nI_m1S (show d < 2147483648 by omega), zk, rm_kf R1, a2', b2i_0, reduceCtorEq, Option.bind_some, bct_v, bct_t, otl_s, otl_n, List.cons_append, List.nil_append, List.getElem?_cons_zero, List.getElem?_cons_succ, ↓reduceIte]
theorem y176h (R : RMx w g m kq hq ca ba wl ed wad kd hr cp br n ws th mi nd dr me di re) (hn : n ≤ 3) (hJ : gJ w g) {c s d k : Nat} (hc : c ≤ 35) (hs : s ≤ 3) (hb : nb c s = some d) (hk2 : k ≤ 2) {z4 : Int32} (hz : z4 < nI 0 ∨ nI 16777215 < z4) : ∃ w', am_x 176 [.ref m, .int (nI c), .int (nI s), .int (nI k), .int z4] w = some (.inl (some (.int (nI 0))), w') ∧ RM w' g m kd hr cp br n ws 2 mi nd dr me di re ∧ stp 100 800 g g 0 0 w w' := by
  obtain ⟨w1, a1, R1, f1⟩ := x96 R hn false (c := 1) (by decide)
  obtain ⟨w2, a2, R2, f2⟩ := x40 R1 hn true (c := 2) (by decide)
  have a1' : am_x 96 [.ref m, .int (nI 0), .int (nI 1)] w = _ := a1
  have a2' : am_x 40 [.ref m, .int (nI 1), .int (nI 2)] w1 = _ := a2
  have hd := nb_lt (show c < 36 by omega) (show s < 4 by omega) hb
  have zb := fun w => x100 (w := w) (c := c) (s := s) (by omega) (by omega)
  rw [hb] at zb
  have zb' : ∀ w, am_x 100 [.int (nI c), .int (nI s)] w = some (.inl (some (.int (nI d))), w) := zb
  have zk := fun w => x39g (w := w) (z := nI k) (a := nI 0) (b := nI 2)
  rw [ok_rng (by decide) (Nat.zero_le k) hk2] at zk
  have zh := fun w => x39g (w := w) (z := z4) (a := nI 0) (b := nI 16777215)
  rw [ng_rng hz] at zh
  refine ⟨w2, ?_, ⟨_, _, _, _, _, _, _, R2⟩, stp_frm hJ (frm_tr f1 f2) (by decide) (by decide)⟩
  simp only [bk176_0, bk176_5, bk176_15, bk176_8, bk176_20, bk176_12, bk176_24, bk176_19, bk176_29, bk176_27, bk176_35, bk176_59, bk176_39, bk176_64, bk176_45, bk176_68, bk176_48, bk176_73, bk176_71, bk176_56, bk176_78, bk176_63, bk176_84, bk176_87, bk176_91, bk176_92, bk176_98, bk176_101, bk176_105, bk176_107, bk176_111, bk176_114, bk176_118, bk176_128, bk176_123, bk176_129, bk176_130, bx176, x97 (w := w) hc, x98 (w := w) hs, rm_kf R, a1', nI_eqS (show 0 < 2147483648 by decide) (show 0 < 2147483648 by decide), not_false_eq_true, not_true_eq_false, zb', nI_m1S (show d < 2147483648 by omega), zk, zh, rm_kf R1, a2', b2i_0, reduceCtorEq, Option.bind_some, bct_v, bct_t, otl_s, otl_n, List.cons_append, List.nil_append, List.getElem?_cons_zero, List.getElem?_cons_succ, ↓reduceIte]
end CD
