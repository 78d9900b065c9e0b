/-! THE REFERENCE'S CALLS: small ones. Mine. -/
def RM (w : am_Wd) (g : Nat → Nat) (m : Nat) (kd hr : Nat → Nat) (cp br : Nat → Bool) (n : Nat) (ws : Nat → sW) (th mi nd : Nat) (dr me di re : Int32) : Prop := ∃ (kq hq ca ba wl ed : Nat) (wad : Nat → Nat), RMx w g m kq hq ca ba wl ed wad kd hr cp br n ws th mi nd dr me di re
section CA
variable {w : am_Wd} {g : Nat → Nat} {m kq hq ca ba wl ed : Nat} {wad : Nat → Nat} {kd hr : Nat → Nat} {cp br : Nat → Bool} {n : Nat} {ws : Nat → sW} {th mi nd : Nat} {dr me di re : Int32}
variable {i a ho po ch : Nat} {lo ac bu sl : Int32} {may : Nat → Bool} {mp : Nat → Nat}
theorem b2i_pos : nI 1 = b2i true := rfl
theorem b2i_neg : nI 0 = b2i false := rfl
/-- a row of yes and no of the floor written -/
theorem rm_ca (R : RMx w g m kq hq ca ba wl ed wad kd hr cp br n ws th mi nd dr me di re) (hn : n ≤ 3) {c : Nat} (hc : c < 36) (b : Bool) : ∃ w', am_wi 2 w ca (nI c) (b2i b) = some w' ∧ RMx w' g m kq hq ca ba wl ed wad kd hr (up cp c b) br n ws th mi nd dr me di re ∧ frm g 103 104 w w' := by
  obtain ⟨h1, k1, k2, k3, k4, k5, k6, g1, g2, g3, g4, g5, g6⟩ := R
  have e := wic k3 (i := c) (x := b2i b) hc (by decide)
  rw [upB] at e
  refine ⟨_, e, ?_, frm_pt (by omega) (by omega)⟩
  have f : frm g 103 104 w (am_pt w ca (.inl (2, 36, .inl (fun s => b2i (up cp c b s))))) := frm_pt (by omega) (by omega)
  have he : (am_pt w ca (.inl (2, 36, .inl (fun s => b2i (up cp c b s))))).1 ed = w.1 ed := by
    rcases k5.2 with ⟨-, -, -, e⟩ | ⟨-, e⟩ <;> exact f.1 ed (by omega)
  exact ⟨cO_of h1 (f.1 m (by omega)), k1.of (f.1 kq (by omega)) (fun b z1 z2 => f.1 b (by omega)), k2.of (f.1 hq (by omega)) (fun b z1 z2 => f.1 b (by omega)), pt_s, cI_of k4 (f.1 ba (by omega)), k5.of (f.1 wl (by omega)) he rfl, fun i hi => (k6 i hi).of (fun b z1 z2 => f.1 b (by omega)) (fun b z1 z2 => f.1 b (by omega)), g1, g2, g3, g4, g5, g6⟩
theorem rm_ba (R : RMx w g m kq hq ca ba wl ed wad kd hr cp br n ws th mi nd dr me di re) (hn : n ≤ 3) {c : Nat} (hc : c < 36) (b : Bool) : ∃ w', am_wi 2 w ba (nI c) (b2i b) = some w' ∧ RMx w' g m kq hq ca ba wl ed wad kd hr cp (up br c b) n ws th mi nd dr me di re ∧ frm g 104 105 w w' := by
  obtain ⟨h1, k1, k2, k3, k4, k5, k6, g1, g2, g3, g4, g5, g6⟩ := R
  have e := wic k4 (i := c) (x := b2i b) hc (by decide)
  rw [upB] at e
  refine ⟨_, e, ?_, frm_pt (by omega) (by omega)⟩
  have f : frm g 104 105 w (am_pt w ba (.inl (2, 36, .inl (fun s => b2i (up br c b s))))) := frm_pt (by omega) (by omega)
  have he : (am_pt w ba (.inl (2, 36, .inl (fun s => b2i (up br c b s))))).1 ed = w.1 ed := by
    rcases k5.2 with ⟨-, -, -, e⟩ | ⟨-, e⟩ <;> exact f.1 ed (by omega)
  exact ⟨cO_of h1 (f.1 m (by omega)), k1.of (f.1 kq (by omega)) (fun b z1 z2 => f.1 b (by omega)), k2.of (f.1 hq (by omega)) (fun b z1 z2 => f.1 b (by omega)), cI_of k3 (f.1 ca (by omega)), pt_s, k5.of (f.1 wl (by omega)) he rfl, fun i hi => (k6 i hi).of (fun b z1 z2 => f.1 b (by omega)) (fun b z1 z2 => f.1 b (by omega)), g1, g2, g3, g4, g5, g6⟩
theorem ok_rng {a b : Nat} (hb : b < 2147483648) {j : Nat} (h1 : a ≤ j) (h2 : j ≤ b) : decide (¬ nI j < nI a ∧ ¬ nI b < nI j) = true := by
  rw [decide_eq_true]
  rw [nI_ltS (by omega) (by omega), nI_ltS (by omega) (by omega)]
  omega
theorem ng_rng {a b : Nat} {z : Int32} (h : z < nI a ∨ nI b < z) : decide (¬ z < nI a ∧ ¬ nI b < z) = false := decide_eq_false fun q => h.elim q.1 q.2
/-- cell -/
theorem y144 (R : RMx w g m kq hq ca ba wl ed wad kd hr cp br n ws th mi nd dr me di re) (hn : n ≤ 3) (hJ : gJ w g) {c : Nat} (hc : c ≤ 35) (u v : Bool) : ∃ w', am_x 144 [.ref m, .int (nI c), .int (b2i u), .int (b2i v)] w = some (.inl (some (.int (nI (cnt 36 (up br c v))))), w') ∧ RM w' g m kd hr (up cp c u) (up br c v) n ws 0 mi nd dr me di re ∧ stp 100 800 g g 0 0 w w' := by
  have z := x97 (w := w) hc
  obtain ⟨w1, a1, R1, f1⟩ := x96 R hn false (c := 1) (by decide)
  have a1' : am_x 96 [.ref m, .int (nI 0), .int (nI 1)] w = _ := a1
  obtain ⟨w2, a2, R2, f2⟩ := rm_ca R1 hn (c := c) (by omega) u
  obtain ⟨w3, a3, R3, f3⟩ := rm_ba R2 hn (c := c) (by omega) v
  refine ⟨w3, ?_, ⟨_, _, _, _, _, _, _, R3⟩, stp_frm hJ (frm_tr (frm_wk f1 (by decide) (by decide)) (frm_tr (frm_wk f2 (by decide) (by decide)) (frm_wk f3 (by decide) (by decide)))) (Nat.le_refl 100) (show 105 ≤ 800 by decide)⟩
  simp only [bx144, bk144_0, z, bk144_5, rm_kf R, a1', bk144_9, b2i_0, bk144_14, gfc R1.1, oM_0, oM_1, oM_2, oM_3, oM_4, oM_5, oM_6, oM_7, oM_8, oM_9, oM_10, oM_11, bk144_18, nar_b, a2, bk144_21, gfc R2.1, bk144_25, a3, bk144_28, gfc R3.1, bk144_32, x44 R3.2.2.2.2.1 (p := up br c v) (fun _ _ => rfl) (by decide), bk144_35, Option.bind_some, bct_v, bct_t, otl_s, otl_n, List.cons_append, List.nil_append, List.getElem?_cons_zero, List.getElem?_cons_succ, ↓reduceIte]
theorem y144n (R : RMx w g m kq hq ca ba wl ed wad kd hr cp br n ws th mi nd dr me di re) (hn : n ≤ 3) (hJ : gJ w g) {z z2 z3 : Int32} (hz : z < nI 0 ∨ nI 35 < z) : ∃ w', am_x 144 [.ref m, .int z, .int z2, .int z3] w = some (.inl (some (.int (nI 0))), w') ∧ RM w' g m kd hr cp br n ws 1 mi nd dr me di re ∧ stp 100 800 g g 0 0 w w' := by
  have z1 := x97n (w := w) hz
  obtain ⟨w1, a1, R1, f1⟩ := x96 R hn true (c := 1) (by decide)
  have a1' : am_x 96 [.ref m, .int (nI 1), .int (nI 1)] w = _ := a1
  refine ⟨w1, ?_, ⟨_, _, _, _, _, _, _, R1⟩, stp_frm hJ f1 (by decide) (by decide)⟩
  simp only [bx144, bk144_0, z1, bk144_5, rm_kf R, a1', bk144_9, b2i_0, reduceCtorEq, bk144_12, Option.bind_some, bct_v, bct_t, otl_s, otl_n, List.cons_append, List.nil_append, List.getElem?_cons_zero, List.getElem?_cons_succ, ↓reduceIte]
/-- pass -/
theorem y145 (R : RMx w g m kq hq ca ba wl ed wad kd hr cp br n ws th mi nd dr me di re) (hn : n ≤ 3) (hJ : gJ w g) {j : Nat} (h1 : 1 ≤ j) (h2 : j ≤ 600) (h3 : mi + j ≤ 3000) : ∃ w', am_x 145 [.ref m, .int (nI j)] w = some (.inl (some (.int (nI (mi + j)))), w') ∧ RM w' g m kd hr cp br n ws 0 (mi + j) nd dr me di re ∧ stp 100 800 g g 0 0 w w' := by
  have z := x39g (w := w) (z := nI j) (a := nI 1) (b := nI 600)
  rw [ok_rng (by decide) h1 h2] at z
  obtain ⟨w1, a1, R1, f1⟩ := x96 R hn false (c := 1) (by decide)
  obtain ⟨w2, a2, R2, f2⟩ := x40 R1 hn false (c := 2) (by decide)
  obtain ⟨R3, f3⟩ := rm_m (th' := 0) (mi' := mi + j) (nd' := nd) (dr' := dr) (me' := me) (di' := di) (re' := re) R2 hn
  have pf : am_pf w2 m 11 1 (.int (nI (mi + j))) = some (am_pt w2 m (.inr (11, oM 0 (mi + j) nd dr me di re kq hq ca ba wl))) := pfc R2.1 (by show 1 < 12; decide) (by decide)
  have a1' : am_x 96 [.ref m, .int (nI 0), .int (nI 1)] w = _ := a1
  have a2' : am_x 40 [.ref m, .int (nI 0), .int (nI 2)] w1 = _ := a2
  refine ⟨_, ?_, ⟨_, _, _, _, _, _, _, R3⟩, stp_frm hJ (frm_tr f1 (frm_tr f2 f3)) (by decide) (by decide)⟩
  simp only [bx145, bk145_0, z, bk145_9, b2i_0, reduceCtorEq, not_false_eq_true, bk145_16, bk145_17, rm_kf R, a1', bk145_21, not_true_eq_false, bk145_24, gfc R1.1, oM_0, oM_1, oM_2, oM_3, oM_4, oM_5, oM_6, oM_7, oM_8, oM_9, oM_10, oM_11, bk145_29, nI_add, nI_leS (show mi + j < 2147483648 by omega) (show 3000 < 2147483648 by decide), h3, bk145_41, bk145_42, rm_kf R1, a2', bk145_46, bk145_51, gfc R2.1, bk145_56, pf, bk145_61, gfc R3.1, bk145_65, Option.bind_some, bct_v, bct_t, otl_s, otl_n, List.cons_append, List.nil_append, List.getElem?_cons_zero, List.getElem?_cons_succ, ↓reduceIte]
theorem y145m (R : RMx w g m kq hq ca ba wl ed wad kd hr cp br n ws th mi nd dr me di re) (hn : n ≤ 3) (hJ : gJ w g) (hm : mi ≤ 3000) {j : Nat} (h1 : 1 ≤ j) (h2 : j ≤ 600) (h3 : ¬ mi + j ≤ 3000) : ∃ w', am_x 145 [.ref m, .int (nI j)] w = some (.inl (some (.int (nI 0))), w') ∧ RM w' g m kd hr cp br n ws 2 mi nd dr me di re ∧ stp 100 800 g g 0 0 w w' := by
  have z := x39g (w := w) (z := nI j) (a := nI 1) (b := nI 600)
  rw [ok_rng (by decide) h1 h2] at z
  obtain ⟨w1, a1, R1, f1⟩ := x96 R hn false (c := 1) (by decide)
  obtain ⟨w2, a2, R2, f2⟩ := x40 R1 hn true (c := 2) (by decide)
  have a1' : am_x 96 [.ref m, .int (nI 0), .int (nI 1)] w = _ := a1
  have a2' : am_x 40 [.ref m, .int (nI 1), .int (nI 2)] w1 = _ := a2
  refine ⟨w2, ?_, ⟨_, _, _, _, _, _, _, R2⟩, stp_frm hJ (frm_tr f1 f2) (by decide) (by decide)⟩
  simp only [bx145, bk145_0, z, bk145_9, b2i_0, reduceCtorEq, not_false_eq_true, bk145_16, bk145_17, rm_kf R, a1', bk145_21, not_true_eq_false, bk145_24, gfc R1.1, oM_0, oM_1, oM_2, oM_3, oM_4, oM_5, oM_6, oM_7, oM_8, oM_9, oM_10, oM_11, bk145_29, nI_add, nI_leS (show mi + j < 2147483648 by omega) (show 3000 < 2147483648 by decide), h3, bk145_37, bk145_42, rm_kf R1, a2', bk145_46, bk145_49, Option.bind_some, bct_v, bct_t, otl_s, otl_n, List.cons_append, List.nil_append, List.getElem?_cons_zero, List.getElem?_cons_succ, ↓reduceIte]
theorem y145n (R : RMx w g m kq hq ca ba wl ed wad kd hr cp br n ws th mi nd dr me di re) (hn : n ≤ 3) (hJ : gJ w g) {z : Int32} (hz : z < nI 1 ∨ nI 600 < z) : ∃ w', am_x 145 [.ref m, .int z] w = some (.inl (some (.int (nI 0))), w') ∧ RM w' g m kd hr cp br n ws 1 mi nd dr me di re ∧ stp 100 800 g g 0 0 w w' := by
  have z1 := x39g (w := w) (z := z) (a := nI 1) (b := nI 600)
  rw [ng_rng hz] at z1
  obtain ⟨w1, a1, R1, f1⟩ := x96 R hn true (c := 1) (by decide)
  have a1' : am_x 96 [.ref m, .int (nI 1), .int (nI 1)] w = _ := a1
  refine ⟨w1, ?_, ⟨_, _, _, _, _, _, _, R1⟩, stp_frm hJ f1 (by decide) (by decide)⟩
  simp only [bx145, bk145_0, z1, bk145_9, b2i_0, not_true_eq_false, bk145_12, bk145_17, rm_kf R, a1', bk145_21, reduceCtorEq, not_false_eq_true, bk145_49, Option.bind_some, bct_v, bct_t, otl_s, otl_n, List.cons_append, List.nil_append, List.getElem?_cons_zero, List.getElem?_cons_succ, ↓reduceIte]
/-- call -/
theorem y47 (R : RMx w g m kq hq ca ba wl ed wad kd hr cp br n ws th mi nd dr me di re) (hn : n ≤ 3) (hJ : gJ w g) : ∃ w', am_x 47 [.ref m] w = some (.inl (some (.int (re + nI 1))), w') ∧ RM w' g m kd hr cp br n ws 0 mi nd dr me di (re + nI 1) ∧ stp 100 800 g g 0 0 w w' := by
  obtain ⟨R1, f1⟩ := rm_m (th' := 0) (mi' := mi) (nd' := nd) (dr' := dr) (me' := me) (di' := di) (re' := re) R hn
  have p1 : am_pf w m 11 0 (.int (nI 0)) = some (am_pt w m (.inr (11, oM 0 mi nd dr me di re kq hq ca ba wl))) := pfc R.1 (by show 0 < 12; decide) (by decide)
  obtain ⟨R2, f2⟩ := rm_m (th' := 0) (mi' := mi) (nd' := nd) (dr' := dr) (me' := me) (di' := di) (re' := re + nI 1) R1 hn
  have p2 : am_pf (am_pt w m (.inr (11, oM 0 mi nd dr me di re kq hq ca ba wl))) m 11 6 (.int (re + nI 1)) = some (am_pt (am_pt w m (.inr (11, oM 0 mi nd dr me di re kq hq ca ba wl))) m (.inr (11, oM 0 mi nd dr me di (re + nI 1) kq hq ca ba wl))) := pfc R1.1 (by show 6 < 12; decide) (by decide)
  refine ⟨_, ?_, ⟨_, _, _, _, _, _, _, R2⟩, stp_frm hJ (frm_tr f1 f2) (by decide) (by decide)⟩
  simp only [bx47, bk47_0, p1, bk47_5, gfc R1.1, oM_0, oM_1, oM_2, oM_3, oM_4, oM_5, oM_6, oM_7, oM_8, oM_9, oM_10, oM_11, bk47_10, p2, bk47_16, Option.bind_some, bct_v, bct_t, otl_s, otl_n, List.cons_append, List.nil_append, List.getElem?_cons_zero, List.getElem?_cons_succ, ↓reduceIte]
end CA
