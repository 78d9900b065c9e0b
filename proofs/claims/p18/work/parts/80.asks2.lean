/-! THE REFERENCE: what is asked of it: the floor and the house. Mine. -/
def wiP (k : Nat) : Bool := (nb (k / 2) (k % 2 + 1)).isSome
theorem flt_or : ∀ a b c : Bool, ((nI 0 ||| (if a = true then bj_ishl (nI 1) (nI 0) else nI 0)) ||| (if b = true then bj_ishl (nI 1) (nI 1) else nI 0)) ||| (if c = true then bj_ishl (nI 1) (nI 2) else nI 0) = nI (flt3 a b c) := by decide +kernel
section AS2
variable {w : am_Wd} {g : Nat → Nat} {m kq hq ca ba wl ed : Nat} {wad : Nat → Nat} {kd hr : Nat → Nat} {cp br : Nat → Bool} {n : Nat} {ws : Nat → sW} {th mi nd : Nat} {dr me di re : Int32}
theorem it210 (R : RMx w g m kq hq ca ba wl ed wad kd hr cp br n ws th mi nd dr me di re) (hk : kdok kd) (hh : hrok hr) (hm : mi ≤ 3000) {c s k : Nat} (hc : c < 36) (hs : s < 4) (hk3 : k < 3) (A : Int32) :
    am_run 210 5 [some (.ref m), some (.int (nI c)), some (.int (nI s)), some (.int A), some (.int (nI k))] [] w = am_run 210 5 [some (.ref m), some (.int (nI c)), some (.int (nI s)), some (.int (A ||| (if clsS kd hr (mi / 60 % 24) c ((s + 3 + k) % 4) = true then bj_ishl (nI 1) (nI k) else nI 0))), some (.int (nI (k + 1)))] [] w := by
  have z := x173 R hk hh hm (c := c) (s := (s + 3 + k) % 4) hc (by omega)
  rw [bk210_5, if_neg (by rw [nI_leS (by decide) (by omega)]; omega)]
  simp only [bk210_11, rm_kf R, nI_add, nI_remS (show s + 3 + k < 2147483648 by omega) (show 0 < 4 by decide) (show 4 < 2147483648 by decide), z, bk210_25, b2i_0, Option.bind_some, bct_v, bct_t, otl_s, otl_n, List.cons_append, List.nil_append, List.getElem?_cons_zero, List.getElem?_cons_succ, ↓reduceIte]
  cases clsS kd hr (mi / 60 % 24) c ((s + 3 + k) % 4) with
  | true => rw [if_neg (fun q => nomatch q), bk210_28, bk210_36, nI_add, if_pos rfl]
  | false => rw [if_pos rfl, bk210_35, bk210_36, nI_add, if_neg (fun q => nomatch q)]
theorem x210 (R : RMx w g m kq hq ca ba wl ed wad kd hr cp br n ws th mi nd dr me di re) (hk : kdok kd) (hh : hrok hr) (hm : mi ≤ 3000) {c s : Nat} (hc : c < 36) (hs : s < 4) : am_x 210 [.ref m, .int (nI c), .int (nI s)] w = some (.inl (some (.int (nI (fltS kd hr (mi / 60 % 24) c s)))), w) := by
  rw [bx210, bk210_0, it210 R hk hh hm hc hs (k := 0) (by decide), it210 R hk hh hm hc hs (k := 1) (by decide), it210 R hk hh hm hc hs (k := 2) (by decide), bk210_5, if_pos (by rw [nI_leS (by decide) (by decide)]; decide), bk210_44, flt_or]
  rfl
theorem it177 (R : RMx w g m kq hq ca ba wl ed wad kd hr cp br n ws th mi nd dr me di re) (hk : kdok kd) {q c j : Nat} (hq : q < 3) (hc : c < 36) (hj : j < 2) :
    am_run 177 13 [some (.ref m), some (.int (nI q)), some (.int (nI (cnt (2 * c + j) (fun k => wiP k && kd k == q)))), some (.int (nI c)), some (.int (nI j))] [] w = am_run 177 13 [some (.ref m), some (.int (nI q)), some (.int (nI (cnt (2 * c + j + 1) (fun k => wiP k && kd k == q)))), some (.int (nI c)), some (.int (nI (j + 1)))] [] w := by
  have z := x143 (w := w) hc hj
  have r0 := R.2.1.row hc
  have r1 := R.2.1.at hc hj
  have k2 := hk (2 * c + j)
  have e0 : (nI (kd (2 * c + j)) = nI q) = (kd (2 * c + j) = q) := nI_eqS (by omega) (by omega)
  have ew : wiP (2 * c + j) = (nb c (j + 1)).isSome := by
    unfold wiP
    rw [show (2 * c + j) / 2 = c by omega, show (2 * c + j) % 2 = j by omega]
  rw [bk177_13, if_neg (by rw [nI_leS (by decide) (by omega)]; omega)]
  cases e : (nb c (j + 1)).isSome with
  | false =>
    rw [e] at z
    rw [cnt_s (p := fun k => wiP k && kd k == q) (b := false) (by show (wiP (2 * c + j) && _) = false; rw [ew, e]; rfl)]
    simp only [bk177_19, z, bk177_26, b2i_0, bk177_46, bk177_47, nI_add, Option.bind_some, bct_v, bct_t, otl_s, otl_n, List.cons_append, List.nil_append, List.getElem?_cons_zero, List.getElem?_cons_succ, ↓reduceIte]
    rfl
  | true =>
    rw [e] at z
    simp only [bk177_19, z, bk177_26, b2i_0, reduceCtorEq, bk177_29, gfc R.1, oM_0, oM_1, oM_2, oM_3, oM_4, oM_5, oM_6, oM_7, oM_8, oM_9, oM_10, oM_11, bk177_33, r0, bk177_35, r1, bk177_38, e0, Option.bind_some, bct_v, bct_t, otl_s, otl_n, List.cons_append, List.nil_append, List.getElem?_cons_zero, List.getElem?_cons_succ, ↓reduceIte]
    by_cases y : kd (2 * c + j) = q
    · rw [cnt_s (p := fun k => wiP k && kd k == q) (b := true) (by show (wiP (2 * c + j) && kd (2 * c + j) == q) = true; rw [ew, e, y]; simp)]
      rw [if_neg (fun x => x y), bk177_42, bk177_47, nI_add, nI_add]
      rfl
    · rw [cnt_s (p := fun k => wiP k && kd k == q) (b := false) (by show (wiP (2 * c + j) && kd (2 * c + j) == q) = false; rw [ew, e]; simpa using y)]
      rw [if_pos y, bk177_46, bk177_47, nI_add, nI_add]
      rfl
theorem x177 (R : RMx w g m kq hq ca ba wl ed wad kd hr cp br n ws th mi nd dr me di re) (hk : kdok kd) {q : Nat} (hq : q < 3) : am_x 177 [.ref m, .int (nI q)] w = some (.inl (some (.int (nI (cnt 72 (fun k => wiP k && kd k == q))))), w) := by
  have cell : ∀ c, c < 36 → am_run 177 4 [some (.ref m), some (.int (nI q)), some (.int (nI (cnt (2 * c) (fun k => wiP k && kd k == q)))), some (.int (nI c)), none] [] w = am_run 177 4 [some (.ref m), some (.int (nI q)), some (.int (nI (cnt (2 * (c + 1)) (fun k => wiP k && kd k == q)))), some (.int (nI (c + 1))), none] [] w := by
    intro c hc
    rw [bk177_4, if_neg (by rw [nI_leS (by decide) (by omega)]; omega), bk177_10]
    refine Eq.trans (it177 R hk hq (j := 0) hc (by decide)) (Eq.trans (it177 R hk hq (j := 1) hc (by decide)) ?_)
    rw [bk177_13, if_pos (by rw [nI_leS (by decide) (by decide)]; decide), bk177_55, nI_add]
    rfl
  have go : ∀ c, c ≤ 36 → am_run 177 4 [some (.ref m), some (.int (nI q)), some (.int (nI 0)), some (.int (nI 0)), none] [] w = am_run 177 4 [some (.ref m), some (.int (nI q)), some (.int (nI (cnt (2 * c) (fun k => wiP k && kd k == q)))), some (.int (nI c)), none] [] w := by
    intro c
    induction c with
    | zero => exact fun _ => rfl
    | succ c ih => exact fun hc => (ih (by omega)).trans (cell c (by omega))
  rw [bx177, bk177_0, go 36 (Nat.le_refl 36), bk177_4, if_pos (by rw [nI_leS (by decide) (by decide)]; decide), bk177_61]
theorem x181 (R : RMx w g m kq hq ca ba wl ed wad kd hr cp br n ws th mi nd dr me di re) (hJ : gJ w g) (hn : n ≤ 3) (hk : kdok kd) (hh : hrok hr) (hm : mi ≤ 3000) {c s k : Nat} (hc : c < 36) (hs : s < 4) (hk2 : k ≤ 2) :
    ∃ w', am_x 181 [.ref m, .int (nI c), .int (nI s), .int (nI k)] w = some (.inl (some (.int (edgS kd hr mi c s k))), w') ∧ ext w w' 1 3 := by
  have y := x100 (w := w) hc hs
  cases e : nb c s with
  | none =>
    rw [e] at y
    have y' : am_x 100 [.int (nI c), .int (nI s)] w = some (.inl (some (.int (-1))), w) := y
    refine ⟨w, ?_, ext_wk ext_rf (by decide) (by decide)⟩
    rcases (show k = 0 ∨ k = 1 ∨ k = 2 by omega) with rfl | rfl | rfl
    · simp only [bk181_0, bk181_5, bk181_20, bk181_9, bk181_25, bk181_18, bk181_14, bk181_30, bk181_19, bk181_36, bk181_39, bk181_43, bk181_44, bk181_45, bk181_54, bk181_57, bk181_64, bk181_60, bk181_65, bk181_66, bk181_72, bk181_75, bk181_79, bk181_80, bk181_81, bk181_87, bx181, y', not_true_eq_false, nI_leS (show 2 < 2147483648 by decide) (show 0 < 2147483648 by decide), show ¬ 2 ≤ 0 from by decide, Option.bind_some, bct_v, bct_t, otl_s, otl_n, List.cons_append, List.nil_append, List.getElem?_cons_zero, List.getElem?_cons_succ, ↓reduceIte]
      unfold edgS kndS
      simp only [e]
    · simp only [bk181_0, bk181_5, bk181_20, bk181_9, bk181_25, bk181_18, bk181_14, bk181_30, bk181_19, bk181_36, bk181_39, bk181_43, bk181_44, bk181_45, bk181_54, bk181_57, bk181_64, bk181_60, bk181_65, bk181_66, bk181_72, bk181_75, bk181_79, bk181_80, bk181_81, bk181_87, bx181, y', not_true_eq_false, nI_leS (show 2 < 2147483648 by decide) (show 1 < 2147483648 by decide), show ¬ 2 ≤ 1 from by decide, Option.bind_some, bct_v, bct_t, otl_s, otl_n, List.cons_append, List.nil_append, List.getElem?_cons_zero, List.getElem?_cons_succ, ↓reduceIte]
      unfold edgS clsS
      simp only [e]
      rfl
    · simp only [bk181_0, bk181_5, bk181_20, bk181_9, bk181_25, bk181_18, bk181_14, bk181_30, bk181_19, bk181_36, bk181_39, bk181_43, bk181_44, bk181_45, bk181_54, bk181_57, bk181_64, bk181_60, bk181_65, bk181_66, bk181_72, bk181_75, bk181_79, bk181_80, bk181_81, bk181_87, bx181, y', not_true_eq_false, nI_leS (show 2 < 2147483648 by decide) (show 2 < 2147483648 by decide), show 2 ≤ 2 from by decide, Option.bind_some, bct_v, bct_t, otl_s, otl_n, List.cons_append, List.nil_append, List.getElem?_cons_zero, List.getElem?_cons_succ, ↓reduceIte]
      unfold edgS hrsS
      simp only [e]
  | some d =>
    have hd := nb_lt hc hs e
    rw [e] at y
    have y' : am_x 100 [.int (nI c), .int (nI s)] w = some (.inl (some (.int (nI d))), w) := y
    have RX : ∀ M, RMx (nwr w 0 3 M) g m kq hq ca ba wl ed wad kd hr cp br n ws th mi nd dr me di re := fun M => rm_ext R hn hJ nwr_ext
    have hkp := kp_lt hc hs e
    have hw := way_lt (s := s)
    have gf : ∀ M k, am_gf (nwr w 0 3 M) m 11 k = (oM th mi nd dr me di re kq hq ca ba wl)[k]? := fun M k => gfc (RX M).1
    have kf : ∀ M, am_kf (nwr w 0 3 M) m 11 = some () := fun M => rm_kf (RX M)
    have r0 := fun M => (RX M).2.1.row hkp
    have r1 := fun M => (RX M).2.1.at hkp hw
    have r2 := fun M => (RX M).2.2.1.row hkp
    have r3 := fun M => (RX M).2.2.1.at hkp hw
    have z := fun M => x101 (RX M) hk hh hm hkp hw
    have w41 := fun M => x41 (w := nwr w 0 3 M) hs
    rw [← plc_at e] at r1 r3 z
    have na : am_na w 0 (nI 3) = some (nwr w 0 3 (fun _ => 0)) := na_nwr (by decide) rfl
    have rd : ∀ M, am_ri 0 (nwr w 0 3 M) w.2.1 (nI k) = some (M k) := fun M => ric (nwr_at (w := w) (t := 0) (n := 3) (M := M)) (i := k) rfl (by omega) (by decide)
    have fin : ∃ M : Nat → Int32, M 0 = nI (kd (plc c s)) ∧ M 1 = b2i (clE (kd (plc c s)) (hr (plc c s)) (mi / 60 % 24)) ∧ M 2 = nI (hr (plc c s)) ∧ am_x 181 [.ref m, .int (nI c), .int (nI s), .int (nI k)] w = some (.inl (some (.int (M k))), nwr w 0 3 M) := by
      refine ⟨upd (upd (upd (fun _ => 0) 0 (nI (kd (plc c s)))) 1 (b2i (clE (kd (plc c s)) (hr (plc c s)) (mi / 60 % 24)))) 2 (nI (hr (plc c s))), rfl, rfl, rfl, ?_⟩
      cases q : clE (kd (plc c s)) (hr (plc c s)) (mi / 60 % 24) with
      | true =>
        rw [q] at z
        simp only [bk181_0, bk181_5, bk181_20, bk181_9, bk181_25, bk181_18, bk181_14, bk181_30, bk181_19, bk181_36, bk181_39, bk181_43, bk181_44, bk181_45, bk181_54, bk181_57, bk181_64, bk181_60, bk181_65, bk181_66, bk181_72, bk181_75, bk181_79, bk181_80, bk181_81, bk181_87, bx181, y', nI_m1S (show d < 2147483648 by omega), x142 hc hs e, na, gf, oM_0, oM_1, oM_2, oM_3, oM_4, oM_5, oM_6, oM_7, oM_8, oM_9, oM_10, oM_11, r0, r1, r2, r3, w41, z, kf, b2i_0, reduceCtorEq, nwr_put, rd, b2i_t, Option.bind_some, bct_v, bct_t, otl_s, otl_n, List.cons_append, List.nil_append, List.getElem?_cons_zero, List.getElem?_cons_succ, ↓reduceIte, nI_add, nI_leS, nI_ltS, nI_eqS, nI_m1S, Nat.reduceAdd, Nat.reduceLT, Nat.reduceLeDiff, Nat.reduceMul, Nat.reduceEqDiff, not_true_eq_false, not_false_eq_true]
      | false =>
        rw [q] at z
        simp only [bk181_0, bk181_5, bk181_20, bk181_9, bk181_25, bk181_18, bk181_14, bk181_30, bk181_19, bk181_36, bk181_39, bk181_43, bk181_44, bk181_45, bk181_54, bk181_57, bk181_64, bk181_60, bk181_65, bk181_66, bk181_72, bk181_75, bk181_79, bk181_80, bk181_81, bk181_87, bx181, y', nI_m1S (show d < 2147483648 by omega), x142 hc hs e, na, gf, oM_0, oM_1, oM_2, oM_3, oM_4, oM_5, oM_6, oM_7, oM_8, oM_9, oM_10, oM_11, r0, r1, r2, r3, w41, z, kf, b2i_0, nwr_put, rd, b2i_f, Option.bind_some, bct_v, bct_t, otl_s, otl_n, List.cons_append, List.nil_append, List.getElem?_cons_zero, List.getElem?_cons_succ, ↓reduceIte, nI_add, nI_leS, nI_ltS, nI_eqS, nI_m1S, Nat.reduceAdd, Nat.reduceLT, Nat.reduceLeDiff, Nat.reduceMul, Nat.reduceEqDiff, not_true_eq_false, not_false_eq_true]
    obtain ⟨M, m0, m1, m2, m3⟩ := fin
    refine ⟨nwr w 0 3 M, m3.trans ?_, nwr_ext⟩
    rcases (show k = 0 ∨ k = 1 ∨ k = 2 by omega) with rfl | rfl | rfl
    · rw [m0]
      unfold edgS kndS
      simp only [e]
    · rw [m1]
      unfold edgS clsS
      simp only [e]
    · rw [m2]
      unfold edgS hrsS
      simp only [e]
end AS2
