/-! THE REFERENCE'S CALLS: listen. Mine. -/
theorem near_c {c d : Nat} (hc : c < 36) (hd : d < 36) : (nI 2 < bj_abs (nI c / nI 6 - nI d / nI 6) + bj_abs (bj_irem (nI c) (nI 6) - bj_irem (nI d) (nI 6))) = (near d c = false) := by
  have k : ∀ c d : Fin 36, ((nI 2 < bj_abs (nI c.val / nI 6 - nI d.val / nI 6) + bj_abs (bj_irem (nI c.val) (nI 6) - bj_irem (nI d.val) (nI 6))) ↔ near d.val c.val = false) := by decide +kernel
  exact propext (k ⟨c, hc⟩ ⟨d, hd⟩)
section CJ
variable {w : am_Wd} {g : Nat → Nat} {m kq hq ca ba wl ed : Nat} {wad : Nat → Nat} {kd hr : Nat → Nat} {cp br : Nat → Bool} {n : Nat} {ws : Nat → sW} {th mi nd : Nat} {dr me di re : Int32}
variable {i a ho po ch : Nat} {lo ac bu sl : Int32} {may : Nat → Bool} {mp : Nat → Nat}
def nrP (ws : Nat → sW) (i j : Nat) : Bool := decide (j ≠ i) && near ((ws i).2.1 / 4) ((ws j).2.1 / 4)
theorem nrN {ws : Nat → sW} {n i : Nat} (hn : n ≤ 3) : nearN ws n i = cnt n (nrP ws i) := by
  unfold nearN
  have e : ∀ j, (decide (j ≠ i ∧ j < n) && near ((ws i).2.1 / 4) ((ws j).2.1 / 4)) = (decide (j < n) && nrP ws i j) := by
    intro j
    unfold nrP
    by_cases q : j < n
    · rw [decide_eq_true q, Bool.true_and]
      by_cases y : j = i
      · rw [decide_eq_false (show ¬ (j ≠ i ∧ j < n) from fun x => x.1 y), decide_eq_false (show ¬ j ≠ i from fun x => x y)]
      · rw [decide_eq_true (show j ≠ i ∧ j < n from ⟨y, q⟩), decide_eq_true (show j ≠ i from y)]
    · rw [decide_eq_false q, decide_eq_false (fun x => q x.2)]
      rfl
  simp only [e]
  have go : ∀ k, n ≤ k → cnt k (fun j => decide (j < n) && nrP ws i j) = cnt n (nrP ws i) := by
    intro k
    induction k with
    | zero =>
      intro h
      have : n = 0 := by omega
      subst this
      rfl
    | succ k ih =>
      intro h
      by_cases y : n = k + 1
      · rw [y]
        exact cnt_cg _ fun c hc => by
          rw [decide_eq_true hc]
          rfl
      · rw [cnt_s (p := fun j => decide (j < n) && nrP ws i j) (b := false) (by show (decide (k < n) && _) = false; rw [decide_eq_false (by omega)]; rfl), ih (by omega)]
        rfl
  exact go 3 hn
theorem it263 (R : RMx w g m kq hq ca ba wl ed wad kd hr cp br n ws th mi nd dr me di re) (hn : n ≤ 3) (hJ : gJ w g) (hi : i < n) (hpp : ∀ j, j < n → (ws j).2.1 < 144) {c it k s : Nat} {l : Int32} {w1 : am_Wd} (e : ext w w1 k s) (hit : w.2.1 ≤ it) (hi2 : it < w1.2.1) (hio : cO w1 it 2 (itO c l n wl)) (hc : c < n) :
    ∃ w2, ext w w2 k s ∧ it < w2.2.1 ∧ cO w2 it 2 (itO (c + 1) (nI c) n wl) ∧ am_run 263 63 [some (.ref m), none, none, some (.ref (wad i)), some (.int (nI (cnt c (nrP ws i)))), some (.ref it), none] [] w1 = am_run 263 63 [some (.ref m), none, none, some (.ref (wad i)), some (.int (nI (cnt (c + 1) (nrP ws i)))), some (.ref it), none] [] w2 := by
  have R1 := rm_ext R hn hJ e
  have n1 : wl ≠ it := fun q => by have := lt_J hJ R.2.2.2.2.2.2.2.2.2.2.2.2 (by decide); omega
  have n2 : ed ≠ it := fun q => by
    have : ed < w.2.1 := by
      rcases R.2.2.2.2.2.1.2 with ⟨-, -, -, z⟩ | ⟨-, z⟩
      · exact lt_J hJ z (by decide)
      · exact lt_J hJ z (by decide)
    omega
  have z52 := x52 hio R1.2.2.2.2.2.1 hn (by omega)
  have z103 := x103 hio R1.2.2.2.2.2.1 hn hc n1 n2
  have e2 : ext w (am_pt w1 it (.inr (2, itO (c + 1) (nI c) n wl))) k s := ext_pt e hit
  have q2 : cO (am_pt w1 it (.inr (2, itO (c + 1) (nI c) n wl))) it 2 (itO (c + 1) (nI c) n wl) := pt_s
  have l2 : it < (am_pt w1 it (.inr (2, itO (c + 1) (nI c) n wl))).2.1 := hi2
  generalize am_pt w1 it (.inr (2, itO (c + 1) (nI c) n wl)) = w2 at z103 e2 q2 l2
  have R2 := rm_ext R hn hJ e2
  have hc2 := rm_get R2 hc (sW_eta (ws c))
  have hi3 := rm_get R2 hi (sW_eta (ws i))
  have kc := mk_kf hc2
  have ki := mk_kf hi3
  have gi := hi3
  have gc := hc2
  obtain ⟨ma, mq, c1, -, -, ga, -⟩ := hc2
  obtain ⟨ma', mq', c1', -, -, ga', -⟩ := hi3
  have zc := x38 c1 (hpp c hc)
  have zi := x38 c1' (hpp i hi)
  refine ⟨w2, e2, l2, q2, ?_⟩
  have head : am_run 263 63 [some (.ref m), none, none, some (.ref (wad i)), some (.int (nI (cnt c (nrP ws i)))), some (.ref it), none] [] w1 = am_run 263 83 [some (.ref m), none, none, some (.ref (wad i)), some (.int (nI (cnt c (nrP ws i)))), some (.ref it), none] [.ref (wad c)] w2 := by
    simp only [bk263_63, kfc hio, z52, decide_eq_true hc, bk263_70, b2i_0, reduceCtorEq, bk263_73, z103, bk263_80, kc, Option.bind_some, bct_v, bct_t, otl_s, otl_n, List.cons_append, List.nil_append, List.getElem?_cons_zero, List.getElem?_cons_succ, ↓reduceIte]
  rw [head, bk263_83]
  by_cases q : c = i
  · subst q
    rw [cnt_s (p := nrP ws c) (b := false) (by unfold nrP; rw [decide_eq_false (fun x => x rfl)]; rfl), if_pos rfl, bk263_140, bk263_141, nI_add]
    rfl
  · have ne : ¬ wad c = wad i := fun x => by rw [x] at ga; omega
    have hp1 := hpp c hc
    have hp2 := hpp i hi
    have e0 := near_c (c := (ws c).2.1 / 4) (d := (ws i).2.1 / 4) (by omega) (by omega)
    rw [if_neg ne]
    simp only [bk263_93, kc, zc, bk263_98, ki, zi, bk263_105, bk263_117, bk263_124, e0, Option.bind_some, bct_v, bct_t, otl_s, otl_n, List.cons_append, List.nil_append, List.getElem?_cons_zero, List.getElem?_cons_succ, ↓reduceIte]
    cases y : near ((ws i).2.1 / 4) ((ws c).2.1 / 4) with
    | true =>
      rw [cnt_s (p := nrP ws i) (b := true) (by unfold nrP; rw [decide_eq_true (show c ≠ i from q), y]; rfl), if_neg (fun x => nomatch x), bk263_136, bk263_141, nI_add]
      rfl
    | false =>
      rw [cnt_s (p := nrP ws i) (b := false) (by unfold nrP; rw [y, Bool.and_false]), if_pos rfl, bk263_140, bk263_141, nI_add]
      rfl
/-- listen -/
theorem y263 (R : RMx w g m kq hq ca ba wl ed wad kd hr cp br n ws th mi nd dr me di re) (hn : n ≤ 3) (hJ : gJ w g) (hm : mi ≤ 3000) (hi : i < n) (hy : ws i = (ho, po, ch, lo, ac, bu, sl, may, mp)) (hpp : ∀ j, j < n → (ws j).2.1 < 144) (hc : ch ≤ 500) (hho : ho < 36) (hmp : mpo mp) (f : Bool) (hr0 : refW mi (ws i) f = false) :
    ∃ w', am_x 263 [.ref m, .int (nI i), .int (b2i f)] w = some (.inl (some (.int (nI (nearN ws n i)))), w') ∧ RM w' g m kd hr cp br n (up ws i (actY (ws i))) 0 (mi + 1) nd dr me di re ∧ stp 100 800 g g 5 148 w w' := by
  have hch : 1 ≤ ch := (refW_f (hy ▸ hr0)).1
  have z1 := x99 R (nI i)
  rw [nwk_f hn hi] at z1
  obtain ⟨w1, a1, R1, f1⟩ := x96 R hn false (c := 1) (by decide)
  have s1 := stp_frm (lo := 100) (hi := 800) hJ f1 (by decide) (by decide)
  have v1 := x150 (rm_L R1) hn hi
  have k1 := mk_kf (rm_get R1 hi hy)
  obtain ⟨w2, a2, e2⟩ := x258 R1 hn (stp_J s1) hm hi hy hmp hho hc f
  rw [← hy, hr0] at a2
  have R2 := rm_ext R1 hn (stp_J s1) e2
  have s2 := stp_tr s1 (stp_ext (stp_J s1) e2)
  obtain ⟨w3, a3, R3, f3⟩ := x40 R2 hn false (c := 2) (by decide)
  have s3 := stp_tr s2 (stp_frm (lo := 100) (hi := 800) (stp_J s2) f3 (by decide) (by decide))
  have hJ3 := stp_J s3
  have v3 := x150 (rm_L R3) hn hi
  have k3 := mk_kf (rm_get R3 hi hy)
  obtain ⟨w4, a4, e4, l4, c4⟩ := x105 (rm_L R3) (lt_J hJ3 R3.2.2.2.2.2.2.2.2.2.2.2.2 (by decide))
  have go : ∀ c, c ≤ n → ∃ w5 l, ext w3 w5 1 4 ∧ w3.2.1 < w5.2.1 ∧ cO w5 w3.2.1 2 (itO c l n wl) ∧ am_run 263 63 [some (.ref m), none, none, some (.ref (wad i)), some (.int (nI 0)), some (.ref w3.2.1), none] [] w4 = am_run 263 63 [some (.ref m), none, none, some (.ref (wad i)), some (.int (nI (cnt c (nrP ws i)))), some (.ref w3.2.1), none] [] w5 := by
    intro c
    induction c with
    | zero => exact fun _ => ⟨w4, -1, e4, l4, c4, rfl⟩
    | succ c ih =>
      intro hc
      obtain ⟨w5, l, j1, j2, j3, j4⟩ := ih (by omega)
      obtain ⟨w6, i1, i2, i3, i4⟩ := it263 R3 hn hJ3 hi hpp j1 (Nat.le_refl _) j2 j3 (by omega)
      exact ⟨w6, nI c, i1, i2, i3, j4.trans i4⟩
  obtain ⟨w5, l, j1, j2, j3, j4⟩ := go n (Nat.le_refl n)
  have R5 := rm_ext R3 hn hJ3 j1
  have s5 := stp_tr s3 (stp_ext hJ3 j1)
  have z52 := x52 j3 (rm_L R5) hn (Nat.le_refl n)
  obtain ⟨w6, a6, R6, f6⟩ := x46 R5 hn hi hy hch
  have s6 := stp_tr s5 (stp_frm (lo := 100) (hi := 800) (stp_J s5) f6 (by decide) (by decide))
  refine ⟨w6, ?_, ⟨_, _, _, _, _, _, _, by rw [hy]; exact R6⟩, stp_wk s6 (by omega) (by omega)⟩
  have st : am_x 263 [.ref m, .int (nI i), .int (b2i f)] w = am_run 263 63 [some (.ref m), none, none, some (.ref (wad i)), some (.int (nI 0)), some (.ref w3.2.1), none] [] w4 := by
    simp only [bk263_0, bk263_6, bk263_10, bk263_37, bk263_13, bk263_19, bk263_23, bk263_26, bk263_30, bk263_34, bk263_39, bk263_43, bk263_47, bk263_50, bk263_58, bk263_61, bx263, rm_kf R, z1, a1, b2i_0, not_true_eq_false, gfc R1.1, gfc R3.1, oM_0, oM_1, oM_2, oM_3, oM_4, oM_5, oM_6, oM_7, oM_8, oM_9, oM_10, oM_11, rm_lk R1, rm_lk R3, v1, v3, k1, k3, rm_kf R1, a2, rm_kf R2, a3, a4, Option.bind_some, bct_v, bct_t, otl_s, otl_n, List.cons_append, List.nil_append, List.getElem?_cons_zero, List.getElem?_cons_succ, ↓reduceIte]
  rw [st, j4, nrN hn]
  simp only [bk263_63, kfc j3, z52, decide_eq_false (Nat.lt_irrefl n), bk263_70, b2i_0, bk263_147, rm_kf R5, a6, bk263_152, Option.bind_some, bct_v, bct_t, otl_s, otl_n, List.cons_append, List.nil_append, List.getElem?_cons_zero, List.getElem?_cons_succ, ↓reduceIte]
theorem y263r (R : RMx w g m kq hq ca ba wl ed wad kd hr cp br n ws th mi nd dr me di re) (hn : n ≤ 3) (hJ : gJ w g) (hm : mi ≤ 3000) (hi : i < n) (hy : ws i = (ho, po, ch, lo, ac, bu, sl, may, mp)) (hc : ch ≤ 500) (hho : ho < 36) (hmp : mpo mp) (f : Bool) (hr0 : refW mi (ws i) f = true) :
    ∃ w', am_x 263 [.ref m, .int (nI i), .int (b2i f)] w = some (.inl (some (.int (nI 0))), w') ∧ RM w' g m kd hr cp br n ws 2 mi nd dr me di re ∧ stp 100 800 g g 4 144 w w' := by
  have z1 := x99 R (nI i)
  rw [nwk_f hn hi] at z1
  obtain ⟨w1, a1, R1, f1⟩ := x96 R hn false (c := 1) (by decide)
  have s1 := stp_frm (lo := 100) (hi := 800) hJ f1 (by decide) (by decide)
  have v1 := x150 (rm_L R1) hn hi
  have k1 := mk_kf (rm_get R1 hi hy)
  obtain ⟨w2, a2, e2⟩ := x258 R1 hn (stp_J s1) hm hi hy hmp hho hc f
  rw [← hy, hr0] at a2
  have R2 := rm_ext R1 hn (stp_J s1) e2
  have s2 := stp_tr s1 (stp_ext (stp_J s1) e2)
  obtain ⟨w3, a3, R3, f3⟩ := x40 R2 hn true (c := 2) (by decide)
  have s3 := stp_tr s2 (stp_frm (lo := 100) (hi := 800) (stp_J s2) f3 (by decide) (by decide))
  refine ⟨w3, ?_, ⟨_, _, _, _, _, _, _, R3⟩, stp_wk s3 (by omega) (by omega)⟩
  simp only [bk263_0, bk263_6, bk263_10, bk263_37, bk263_13, bk263_19, bk263_23, bk263_26, bk263_30, bk263_34, bk263_39, bk263_43, bk263_47, bk263_50, bk263_58, bk263_61, bx263, rm_kf R, z1, a1, b2i_0, not_true_eq_false, gfc R1.1, oM_0, oM_1, oM_2, oM_3, oM_4, oM_5, oM_6, oM_7, oM_8, oM_9, oM_10, oM_11, rm_lk R1, v1, k1, rm_kf R1, a2, rm_kf R2, a3, reduceCtorEq, Option.bind_some, bct_v, bct_t, otl_s, otl_n, List.cons_append, List.nil_append, List.getElem?_cons_zero, List.getElem?_cons_succ, ↓reduceIte]
theorem y263n (R : RMx w g m kq hq ca ba wl ed wad kd hr cp br n ws th mi nd dr me di re) (hn : n ≤ 3) (hJ : gJ w g) {z z2 : Int32} (hz : z < nI 0 ∨ nI n ≤ z) : ∃ w', am_x 263 [.ref m, .int z, .int z2] w = some (.inl (some (.int (nI 0))), w') ∧ RM w' g m kd hr cp br n ws 1 mi nd dr me di re ∧ stp 100 800 g g 0 0 w w' := by
  have z1 := x99 R z
  rw [nwk_t hn hz] at z1
  obtain ⟨w1, a1, R1, f1⟩ := x96 R hn true (c := 1) (by decide)
  refine ⟨w1, ?_, ⟨_, _, _, _, _, _, _, R1⟩, stp_frm hJ f1 (by decide) (by decide)⟩
  simp only [bk263_0, bk263_6, bk263_10, bk263_37, bk263_13, bk263_19, bk263_23, bk263_26, bk263_30, bk263_34, bk263_39, bk263_43, bk263_47, bk263_50, bk263_58, bk263_61, bx263, rm_kf R, z1, a1, b2i_0, reduceCtorEq, not_false_eq_true, Option.bind_some, bct_v, bct_t, otl_s, otl_n, List.cons_append, List.nil_append, List.getElem?_cons_zero, List.getElem?_cons_succ, ↓reduceIte]
end CJ
