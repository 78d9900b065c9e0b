/-! THE REFERENCE'S CALLS: feel, listen. Mine. -/
theorem putL_ok {may : Nat → Bool} {mp : Nat → Nat} (h : mpo mp) (t : Nat) : mpo (putL may mp t) := by
  unfold putL
  cases sureP may with
  | none => exact h
  | some p => exact putM_ok (putM_ok (putM_ok h _ _ _) _ _ _) _ _ _
theorem flt_lt (kd hr : Nat → Nat) (h c s : Nat) : fltS kd hr h c s < 8 := flt3_lt _ _ _
section CI
variable {w : am_Wd} {g : Nat → Nat} {m kq hq ca ba wl ed : Nat} {wad : Nat → Nat} {kd hr : Nat → Nat} {cp br : Nat → Bool} {n : Nat} {ws : Nat → sW} {th mi nd : Nat} {dr me di re : Int32}
variable {i a ho po ch : Nat} {lo ac bu sl : Int32} {may : Nat → Bool} {mp : Nat → Nat}
/-- what refuses an act of feel or listen -/
theorem it262 (R : RMx w g m kq hq ca ba wl ed wad kd hr cp br n ws th mi nd dr me di re) (hn : n ≤ 3) (hJ : gJ w g) (hi : i < n) (hy : ws i = (ho, po, ch, lo, ac, bu, sl, may, mp)) {t p k : Nat} (ht : t < 8) (hp : p < 144) (hk : k < 3) :
    ∃ w', am_run 262 76 [some (.ref m), none, none, some (.ref (wad i)), some (.int (nI t)), some (.int (nI p)), some (.int (nI k))] [] w = am_run 262 76 [some (.ref m), none, none, some (.ref (wad i)), some (.int (nI t)), some (.int (nI p)), some (.int (nI (k + 1)))] [] w' ∧ RMx w' g m kq hq ca ba wl ed wad kd hr cp br n (up ws i (ho, po, ch, lo, ac, bu, sl, may, putM mp (p / 4) ((p % 4 + 3 + k) % 4) (t.testBit k))) th mi nd dr me di re ∧ frm g 400 736 w w' := by
  obtain ⟨w', a1, R1, f1⟩ := rm_lrn R hn hi hy (c := p / 4) (s := (p % 4 + 3 + k) % 4) (by omega) (by omega) (t.testBit k)
  refine ⟨w', ?_, R1, frm_wk f1 (by omega) (by omega)⟩
  have es : (p + 3 + k) % 4 = (p % 4 + 3 + k) % 4 := by omega
  rw [bk262_76, if_neg (by rw [nI_leS (by decide) (by omega)]; omega), bk262_82, if_neg (by rw [nI_m1S (by omega)]; exact id), bk262_88]
  simp only [told_b2 ht hk, nI_divS (show p < 2147483648 by omega) (show 0 < 4 by decide) (show 4 < 2147483648 by decide), nI_add, nI_remS (show p + 3 + k < 2147483648 by omega) (show 0 < 4 by decide) (show 4 < 2147483648 by decide), es]
  cases e : t.testBit k with
  | true =>
    rw [e] at a1
    have a1' : am_x 175 [.ref (wad i), .int (nI (p / 4)), .int (nI ((p % 4 + 3 + k) % 4)), .int (nI 1)] w = _ := a1
    rw [if_neg (fun q => q rfl)]
    simp only [bk262_113, bk262_118, a1', bk262_121, nI_add, Option.bind_some, bct_v, bct_t, otl_s, otl_n, List.cons_append, List.nil_append, List.getElem?_cons_zero, List.getElem?_cons_succ, ↓reduceIte]
  | false =>
    rw [e] at a1
    have a1' : am_x 175 [.ref (wad i), .int (nI (p / 4)), .int (nI ((p % 4 + 3 + k) % 4)), .int (nI 0)] w = _ := a1
    rw [if_pos (fun q => nomatch q)]
    simp only [bk262_117, bk262_118, a1', bk262_121, nI_add, Option.bind_some, bct_v, bct_t, otl_s, otl_n, List.cons_append, List.nil_append, List.getElem?_cons_zero, List.getElem?_cons_succ, ↓reduceIte]
/-- feel -/
theorem y262 (R : RMx w g m kq hq ca ba wl ed wad kd hr cp br n ws th mi nd dr me di re) (hn : n ≤ 3) (hJ : gJ w g) (hk : kdok kd) (hh : hrok hr) (hm : mi ≤ 3000) (hi : i < n) (hy : ws i = (ho, po, ch, lo, ac, bu, sl, may, mp)) (hp : po < 144) (hc : ch ≤ 500) (hho : ho < 36) (hmp : mpo mp) (f : Bool) (hr0 : refW mi (ws i) f = false) :
    ∃ w' g', am_x 262 [.ref m, .int (nI i), .int (b2i f)] w = some (.inl (some (.int (nI (feltN kd hr mi po)))), w') ∧ RM w' g' m kd hr cp br n (up ws i (feelY (feltN kd hr mi po) (ws i))) 0 (mi + 1) nd dr me di re ∧ stp 100 800 g g' 5 288 w w' := by
  have hch : 1 ≤ ch := (refW_f (hy ▸ hr0)).1
  have z1 := x99 R (nI i)
  rw [nwk_f hn hi] at z1
  obtain ⟨w1, a1, R1, f1⟩ := x96 R hn false (c := 1) (by decide)
  have s1 := stp_frm (lo := 100) (hi := 800) hJ f1 (by decide) (by decide)
  have v1 := x150 (rm_L R1) hn hi
  have k1 := mk_kf (rm_get R1 hi hy)
  obtain ⟨w2, a2, e2⟩ := x258 R1 hn (stp_J s1) hm hi hy hmp hho hc f
  rw [← hy, hr0] at a2
  have R2 := rm_ext R1 hn (stp_J s1) e2
  have s2 := stp_tr s1 (stp_ext (stp_J s1) e2)
  obtain ⟨w3, a3, R3, f3⟩ := x40 R2 hn false (c := 2) (by decide)
  have s3 := stp_tr s2 (stp_frm (lo := 100) (hi := 800) (stp_J s2) f3 (by decide) (by decide))
  have v3 := x150 (rm_L R3) hn hi
  have h3 := rm_get R3 hi hy
  have k3 := mk_kf h3
  have z95 := x95 h3
  have z210 := x210 R3 hk hh hm (c := po / 4) (s := po % 4) (by omega) (by omega)
  have z210' : am_x 210 [.ref m, .int (nI (po / 4)), .int (nI (po % 4))] w3 = some (.inl (some (.int (nI (feltN kd hr mi po)))), w3) := z210
  obtain ⟨ma, mq, c3, -⟩ := h3
  have ht : feltN kd hr mi po < 8 := flt_lt ..
  generalize feltN kd hr mi po = t at z210' ht
  -- what is learned
  have lr : ∃ w4, am_run 262 76 [some (.ref m), none, none, some (.ref (wad i)), some (.int (nI t)), some (.int (no (sureP may))), some (.int (nI 0))] [] w3 = am_run 262 127 [some (.ref m), none, none, some (.ref (wad i)), some (.int (nI t)), none, none] [] w4 ∧ RMx w4 g m kq hq ca ba wl ed wad kd hr cp br n (up ws i (ho, po, ch, lo, ac, bu, sl, may, putL may mp t)) 0 mi nd dr me di re ∧ frm g 400 736 w3 w4 := by
    unfold putL
    cases es : sureP may with
    | none =>
      refine ⟨w3, ?_, by rw [up_id hy]; exact R3, frm_rf⟩
      rw [bk262_76, if_neg (by rw [nI_leS (by decide) (by decide)]; decide), bk262_82, if_pos (show no none = (-1 : Int32) from rfl)]
    | some p =>
      have hp1 := (sure_lt es).1
      obtain ⟨wa, b1, Ra, fa⟩ := it262 R3 hn (stp_J s3) hi hy ht hp1 (k := 0) (by decide)
      have Ja : gJ wa g := stp_J (stp_frm (lo := 100) (hi := 800) (stp_J s3) fa (by decide) (by decide))
      obtain ⟨wb, b2, Rb, fb⟩ := it262 Ra hn Ja hi up_s ht hp1 (k := 1) (by decide)
      rw [up_up] at Rb
      have Jb : gJ wb g := stp_J (stp_frm (lo := 100) (hi := 800) Ja fb (by decide) (by decide))
      obtain ⟨wc, b3, Rc, fc⟩ := it262 Rb hn Jb hi up_s ht hp1 (k := 2) (by decide)
      rw [up_up] at Rc
      refine ⟨wc, ?_, Rc, frm_tr fa (frm_tr fb fc)⟩
      refine Eq.trans b1 (Eq.trans b2 (Eq.trans b3 ?_))
      rw [bk262_76, if_pos (by rw [nI_leS (by decide) (by decide)]; decide)]
  obtain ⟨w4, e4, R4, f4⟩ := lr
  have s4 := stp_tr s3 (stp_frm (lo := 100) (hi := 800) (stp_J s3) f4 (by decide) (by decide))
  obtain ⟨F, hF, a5⟩ := x211 (stp_J s4) (putL_ok hmp t) (rm_get R4 hi up_s) ht
  obtain ⟨w6, a6, R6, s6⟩ := took R4 hn (stp_J s4) hi up_s hF
  rw [up_up] at R6
  obtain ⟨w7, a7, R7, f7⟩ := x46 R6 hn hi up_s hch
  rw [up_up] at R7
  have s7 := stp_tr (stp_tr s4 s6) (stp_frm (lo := 100) (hi := 800) (stp_J s6) f7 (by decide) (by decide))
  refine ⟨w7, _, ?_, ⟨_, _, _, _, _, _, _, by rw [hy]; exact R7⟩, stp_wk s7 (by omega) (by omega)⟩
  have st : am_x 262 [.ref m, .int (nI i), .int (b2i f)] w = am_run 262 76 [some (.ref m), none, none, some (.ref (wad i)), some (.int (nI t)), some (.int (no (sureP may))), some (.int (nI 0))] [] w3 := by
    simp only [bk262_0, bk262_6, bk262_10, bk262_37, bk262_13, bk262_19, bk262_23, bk262_26, bk262_30, bk262_34, bk262_39, bk262_43, bk262_47, bk262_50, bk262_56, bk262_60, bk262_65, bk262_71, bx262, rm_kf R, z1, a1, b2i_0, not_true_eq_false, gfc R1.1, gfc R3.1, oM_0, oM_1, oM_2, oM_3, oM_4, oM_5, oM_6, oM_7, oM_8, oM_9, oM_10, oM_11, rm_lk R1, rm_lk R3, v1, v3, k1, k3, rm_kf R1, a2, rm_kf R2, a3, gfc c3, oK_0, oK_1, oK_2, oK_3, oK_4, oK_5, oK_6, oK_7, oK_8, x38 c3 hp, nI_remS (show po < 2147483648 by omega) (show 0 < 4 by decide) (show 4 < 2147483648 by decide), rm_kf R3, z210', z95, Option.bind_some, bct_v, bct_t, otl_s, otl_n, List.cons_append, List.nil_append, List.getElem?_cons_zero, List.getElem?_cons_succ, ↓reduceIte]
  rw [st, e4]
  simp only [bk262_127, a5, bk262_134, a6, bk262_137, rm_kf R6, a7, bk262_142, Option.bind_some, bct_v, bct_t, otl_s, otl_n, List.cons_append, List.nil_append, List.getElem?_cons_zero, List.getElem?_cons_succ, ↓reduceIte]
theorem y262r (R : RMx w g m kq hq ca ba wl ed wad kd hr cp br n ws th mi nd dr me di re) (hn : n ≤ 3) (hJ : gJ w g) (hm : mi ≤ 3000) (hi : i < n) (hy : ws i = (ho, po, ch, lo, ac, bu, sl, may, mp)) (hc : ch ≤ 500) (hho : ho < 36) (hmp : mpo mp) (f : Bool) (hr0 : refW mi (ws i) f = true) :
    ∃ w', am_x 262 [.ref m, .int (nI i), .int (b2i f)] w = some (.inl (some (.int (nI 0))), w') ∧ RM w' g m kd hr cp br n ws 2 mi nd dr me di re ∧ stp 100 800 g g 4 144 w w' := by
  have z1 := x99 R (nI i)
  rw [nwk_f hn hi] at z1
  obtain ⟨w1, a1, R1, f1⟩ := x96 R hn false (c := 1) (by decide)
  have s1 := stp_frm (lo := 100) (hi := 800) hJ f1 (by decide) (by decide)
  have v1 := x150 (rm_L R1) hn hi
  have k1 := mk_kf (rm_get R1 hi hy)
  obtain ⟨w2, a2, e2⟩ := x258 R1 hn (stp_J s1) hm hi hy hmp hho hc f
  rw [← hy, hr0] at a2
  have R2 := rm_ext R1 hn (stp_J s1) e2
  have s2 := stp_tr s1 (stp_ext (stp_J s1) e2)
  obtain ⟨w3, a3, R3, f3⟩ := x40 R2 hn true (c := 2) (by decide)
  have s3 := stp_tr s2 (stp_frm (lo := 100) (hi := 800) (stp_J s2) f3 (by decide) (by decide))
  refine ⟨w3, ?_, ⟨_, _, _, _, _, _, _, R3⟩, stp_wk s3 (by omega) (by omega)⟩
  simp only [bk262_0, bk262_6, bk262_10, bk262_37, bk262_13, bk262_19, bk262_23, bk262_26, bk262_30, bk262_34, bk262_39, bk262_43, bk262_47, bk262_50, bk262_56, bk262_60, bk262_65, bk262_71, bx262, rm_kf R, z1, a1, b2i_0, not_true_eq_false, gfc R1.1, oM_0, oM_1, oM_2, oM_3, oM_4, oM_5, oM_6, oM_7, oM_8, oM_9, oM_10, oM_11, rm_lk R1, v1, k1, rm_kf R1, a2, rm_kf R2, a3, reduceCtorEq, Option.bind_some, bct_v, bct_t, otl_s, otl_n, List.cons_append, List.nil_append, List.getElem?_cons_zero, List.getElem?_cons_succ, ↓reduceIte]
theorem y262n (R : RMx w g m kq hq ca ba wl ed wad kd hr cp br n ws th mi nd dr me di re) (hn : n ≤ 3) (hJ : gJ w g) {z z2 : Int32} (hz : z < nI 0 ∨ nI n ≤ z) : ∃ w', am_x 262 [.ref m, .int z, .int z2] w = some (.inl (some (.int (nI 0))), w') ∧ RM w' g m kd hr cp br n ws 1 mi nd dr me di re ∧ stp 100 800 g g 0 0 w w' := by
  have z1 := x99 R z
  rw [nwk_t hn hz] at z1
  obtain ⟨w1, a1, R1, f1⟩ := x96 R hn true (c := 1) (by decide)
  refine ⟨w1, ?_, ⟨_, _, _, _, _, _, _, R1⟩, stp_frm hJ f1 (by decide) (by decide)⟩
  simp only [bk262_0, bk262_6, bk262_10, bk262_37, bk262_13, bk262_19, bk262_23, bk262_26, bk262_30, bk262_34, bk262_39, bk262_43, bk262_47, bk262_50, bk262_56, bk262_60, bk262_65, bk262_71, bx262, rm_kf R, z1, a1, b2i_0, reduceCtorEq, not_false_eq_true, Option.bind_some, bct_v, bct_t, otl_s, otl_n, List.cons_append, List.nil_append, List.getElem?_cons_zero, List.getElem?_cons_succ, ↓reduceIte]
end CI
