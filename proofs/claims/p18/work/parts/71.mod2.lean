/-! THE REFERENCE: edges, walkers' sums. Mine. -/
theorem cnt_ff : ∀ n, cnt n (fun _ => false) = 0
  | 0 => rfl
  | n + 1 => by
    show cnt n (fun _ => false) + (if false = true then 1 else 0) = 0
    rw [cnt_ff n]
    rfl
theorem nar_b (b : Bool) : vp_nar .boolean (b2i b) = b2i b := by cases b <;> rfl
theorem nar_1 : vp_nar .boolean (nI 1) = b2i true := rfl
theorem nar_0 : vp_nar .boolean (nI 0) = b2i false := rfl
def E100 (r c : Int32) : Int32 := if ¬ r < nI 0 ∧ ¬ nI 5 < r then (if ¬ c < nI 0 ∧ ¬ nI 5 < c then nI 6 * r + c else -1) else -1
def G100 (c s : Nat) : Int32 := E100 (nI c / nI 6 + (if s = 0 then -1 else if s = 2 then nI 1 else nI 0)) (bj_irem (nI c) (nI 6) + (if s = 1 then nI 1 else if s = 3 then -1 else nI 0))
theorem G100_ok : all36 (fun c s => decide (G100 c s = no (nb c s))) = true := by decide +kernel
section MO2
variable {w w' : am_Wd} {g : Nat → Nat} {m kq hq ca ba wl ed : Nat} {wad : Nat → Nat} {kd hr : Nat → Nat} {cp br : Nat → Bool} {n : Nat} {ws : Nat → sW} {th mi nd : Nat} {dr me di re : Int32}
variable {i a ho po ch : Nat} {lo ac bu sl : Int32} {may : Nat → Bool} {mp : Nat → Nat}
theorem x39g {z a b : Int32} : am_x 39 [.int z, .int a, .int b] w = some (.inl (some (.int (b2i (decide (¬ z < a ∧ ¬ b < z))))), w) := by
  by_cases h1 : z < a
  · rw [show decide (¬ z < a ∧ ¬ b < z) = false from decide_eq_false (fun q => q.1 h1)]
    simp only [bk39_0, bk39_14, bk39_5, bk39_10, bx39, h1, ↓reduceIte]
    exact bk39_15 (by rfl)
  · by_cases h2 : b < z
    · rw [show decide (¬ z < a ∧ ¬ b < z) = false from decide_eq_false (fun q => q.2 h2)]
      simp only [bk39_0, bk39_14, bk39_5, bk39_10, bx39, h1, h2, ↓reduceIte]
      exact bk39_15 (by rfl)
    · rw [show decide (¬ z < a ∧ ¬ b < z) = true from decide_eq_true ⟨h1, h2⟩]
      simp only [bk39_0, bk39_14, bk39_5, bk39_10, bx39, h1, h2, ↓reduceIte]
      exact bk39_15 (by rfl)
theorem x98 {c : Nat} (hc : c ≤ 3) : am_x 98 [.int (nI c)] w = some (.inl (some (.int (nI 0))), w) := by
  simp only [bk98_0, bk98_6, bk98_13, bk98_9, bk98_14, bx98, x39 (show 3 < 2147483648 by decide) (Nat.zero_le c) hc, nI_eqS (show 1 < 2147483648 by decide) (show 0 < 2147483648 by decide), Option.bind_some, bct_v, bct_t, otl_s, otl_n, List.cons_append, List.nil_append, List.getElem?_cons_zero, List.getElem?_cons_succ, ↓reduceIte, nI_add, nI_leS, nI_ltS, nI_eqS, nI_m1S, Nat.reduceAdd, Nat.reduceLT, Nat.reduceLeDiff, Nat.reduceMul, Nat.reduceEqDiff, not_true_eq_false, not_false_eq_true]
  try exact bk98_14 (by rfl)
theorem x98n {z : Int32} (h : z < nI 0 ∨ nI 3 < z) : am_x 98 [.int z] w = some (.inl (some (.int (nI 1))), w) := by
  simp only [bk98_0, bk98_6, bk98_13, bk98_9, bk98_14, bx98, x39n h, Option.bind_some, bct_v, bct_t, otl_s, otl_n, List.cons_append, List.nil_append, List.getElem?_cons_zero, List.getElem?_cons_succ, ↓reduceIte, nI_add, nI_leS, nI_ltS, nI_eqS, nI_m1S, Nat.reduceAdd, Nat.reduceLT, Nat.reduceLeDiff, Nat.reduceMul, Nat.reduceEqDiff, not_true_eq_false, not_false_eq_true]
  try exact bk98_14 (by rfl)
theorem e100 {r s0 s1 : Int32} : am_run 100 47 [none, none, some (.int r), none] [.int s0, .int s1] w = some (.inl (some (.int (E100 r (s1 + s0)))), w) := by
  unfold E100
  by_cases h1 : ¬ r < nI 0 ∧ ¬ nI 5 < r
  · by_cases h2 : ¬ s1 + s0 < nI 0 ∧ ¬ nI 5 < s1 + s0
    · rw [if_pos h1, if_pos h2]
      simp only [bk100_47, x39g, decide_eq_true h1, bk100_55, b2i_0, reduceCtorEq, bk100_58, decide_eq_true h2, bk100_64, bk100_67, bk100_77, Option.bind_some, bct_v, bct_t, otl_s, otl_n, List.cons_append, List.nil_append, List.getElem?_cons_zero, List.getElem?_cons_succ, ↓reduceIte]
    · rw [if_pos h1, if_neg h2]
      simp only [bk100_47, x39g, decide_eq_true h1, bk100_55, b2i_0, reduceCtorEq, bk100_58, decide_eq_false h2, bk100_64, bk100_76, bk100_77, Option.bind_some, bct_v, bct_t, otl_s, otl_n, List.cons_append, List.nil_append, List.getElem?_cons_zero, List.getElem?_cons_succ, ↓reduceIte]
  · rw [if_neg h1]
    simp only [bk100_47, x39g, decide_eq_false h1, bk100_55, b2i_0, bk100_76, bk100_77, Option.bind_some, bct_v, bct_t, otl_s, otl_n, List.cons_append, List.nil_append, List.getElem?_cons_zero, List.getElem?_cons_succ, ↓reduceIte]
theorem x100 {c s : Nat} (hc : c < 36) (hs : s < 4) : am_x 100 [.int (nI c), .int (nI s)] w = some (.inl (some (.int (no (nb c s)))), w) := by
  have k := of_decide_eq_true (all36_at G100_ok hc hs)
  rw [← k]
  rcases (show s = 0 ∨ s = 1 ∨ s = 2 ∨ s = 3 by omega) with rfl | rfl | rfl | rfl <;>
    (simp only [bx100, bk100_0, bk100_12, bk100_8, bk100_21, bk100_17, bk100_22, bk100_37, bk100_33, bk100_46, bk100_42, e100, nI_add, nI_leS, nI_ltS, nI_eqS, nI_m1S, Nat.reduceAdd, Nat.reduceLT, Nat.reduceLeDiff, Nat.reduceMul, Nat.reduceEqDiff, not_true_eq_false, not_false_eq_true, ↓reduceIte]; rfl)
theorem x142 {c s d : Nat} (hc : c < 36) (hs : s < 4) (h : nb c s = some d) : am_x 142 [.int (nI c), .int (nI s)] w = some (.inl (some (.int (nI (if s = 0 ∨ s = 3 then d else c)))), w) := by
  have k : am_x 100 [.int (nI c), .int (nI s)] w = some (.inl (some (.int (nI d))), w) := by rw [x100 hc hs, h]; rfl
  rcases (show s = 0 ∨ s = 1 ∨ s = 2 ∨ s = 3 by omega) with rfl | rfl | rfl | rfl <;>
    (simp only [bk142_0, bk142_9, bk142_4, bk142_14, bk142_17, bk142_18, bx142, k, Option.bind_some, bct_v, bct_t, otl_s, otl_n, List.cons_append, List.nil_append, List.getElem?_cons_zero, List.getElem?_cons_succ, ↓reduceIte, nI_add, nI_leS, nI_ltS, nI_eqS, nI_m1S, Nat.reduceAdd, Nat.reduceLT, Nat.reduceLeDiff, Nat.reduceMul, Nat.reduceEqDiff, not_true_eq_false, not_false_eq_true]; rfl)
theorem x41 {s : Nat} (hs : s < 4) : am_x 41 [.int (nI s)] w = some (.inl (some (.int (nI (if s = 1 ∨ s = 3 then 0 else 1)))), w) := by
  rcases (show s = 0 ∨ s = 1 ∨ s = 2 ∨ s = 3 by omega) with rfl | rfl | rfl | rfl <;>
    (simp only [bk41_0, bk41_11, bk41_7, bk41_12, bx41, nI_remS (show 0 < 2147483648 by decide) (show 0 < 2 by decide) (show 2 < 2147483648 by decide), nI_remS (show 1 < 2147483648 by decide) (show 0 < 2 by decide) (show 2 < 2147483648 by decide), nI_remS (show 2 < 2147483648 by decide) (show 0 < 2 by decide) (show 2 < 2147483648 by decide), nI_remS (show 3 < 2147483648 by decide) (show 0 < 2 by decide) (show 2 < 2147483648 by decide), Nat.reduceMod, Option.bind_some, bct_v, bct_t, otl_s, otl_n, List.cons_append, List.nil_append, List.getElem?_cons_zero, List.getElem?_cons_succ, ↓reduceIte, nI_add, nI_leS, nI_ltS, nI_eqS, nI_m1S, Nat.reduceAdd, Nat.reduceLT, Nat.reduceLeDiff, Nat.reduceMul, Nat.reduceEqDiff, not_true_eq_false, not_false_eq_true]; rfl)
theorem plc_at {c s d : Nat} (h : nb c s = some d) : plc c s = 2 * (if s = 0 ∨ s = 3 then d else c) + (if s = 1 ∨ s = 3 then 0 else 1) := by
  unfold plc
  rw [h]
theorem way_lt {s : Nat} : (if s = 1 ∨ s = 3 then 0 else 1) < 2 := by split <;> decide
theorem kp_lt {c s d : Nat} (hc : c < 36) (hs : s < 4) (h : nb c s = some d) : (if s = 0 ∨ s = 3 then d else c) < 36 := by
  split
  · exact nb_lt hc hs h
  · exact hc
theorem x143 {c j : Nat} (hc : c < 36) (hj : j < 2) : am_x 143 [.int (nI c), .int (nI j)] w = some (.inl (some (.int (b2i (nb c (j + 1)).isSome))), w) := by
  have k := x100 (w := w) (c := c) (s := j + 1) hc (by omega)
  rcases (show j = 0 ∨ j = 1 by omega) with rfl | rfl
  · cases e : nb c 1 with
    | none =>
      rw [show nb c (0 + 1) = none from e] at k
      have k' : am_x 100 [.int (nI c), .int (nI 1)] w = some (.inl (some (.int (-1))), w) := k
      simp only [bk143_0, bk143_9, bk143_5, bk143_10, bk143_13, bk143_21, bk143_17, bx143, k', Option.bind_some, bct_v, bct_t, otl_s, otl_n, List.cons_append, List.nil_append, List.getElem?_cons_zero, List.getElem?_cons_succ, ↓reduceIte, nI_add, nI_leS, nI_ltS, nI_eqS, nI_m1S, Nat.reduceAdd, Nat.reduceLT, Nat.reduceLeDiff, Nat.reduceMul, Nat.reduceEqDiff, not_true_eq_false, not_false_eq_true]
      exact (bk143_22 (by rfl)).trans rfl
    | some d =>
      have hd := nb_lt hc (by decide) e
      rw [show nb c (0 + 1) = some d from e] at k
      have k' : am_x 100 [.int (nI c), .int (nI 1)] w = some (.inl (some (.int (nI d))), w) := k
      simp only [bk143_0, bk143_9, bk143_5, bk143_10, bk143_13, bk143_21, bk143_17, bx143, k', nI_m1S (show d < 2147483648 by omega), Option.bind_some, bct_v, bct_t, otl_s, otl_n, List.cons_append, List.nil_append, List.getElem?_cons_zero, List.getElem?_cons_succ, ↓reduceIte, nI_add, nI_leS, nI_ltS, nI_eqS, nI_m1S, Nat.reduceAdd, Nat.reduceLT, Nat.reduceLeDiff, Nat.reduceMul, Nat.reduceEqDiff, not_true_eq_false, not_false_eq_true]
      exact (bk143_22 (by rfl)).trans rfl
  · cases e : nb c 2 with
    | none =>
      rw [show nb c (1 + 1) = none from e] at k
      have k' : am_x 100 [.int (nI c), .int (nI 2)] w = some (.inl (some (.int (-1))), w) := k
      simp only [bk143_0, bk143_9, bk143_5, bk143_10, bk143_13, bk143_21, bk143_17, bx143, k', nI_eqS (show 1 < 2147483648 by decide) (show 0 < 2147483648 by decide), Option.bind_some, bct_v, bct_t, otl_s, otl_n, List.cons_append, List.nil_append, List.getElem?_cons_zero, List.getElem?_cons_succ, ↓reduceIte, nI_add, nI_leS, nI_ltS, nI_eqS, nI_m1S, Nat.reduceAdd, Nat.reduceLT, Nat.reduceLeDiff, Nat.reduceMul, Nat.reduceEqDiff, not_true_eq_false, not_false_eq_true]
      exact (bk143_22 (by rfl)).trans rfl
    | some d =>
      have hd := nb_lt hc (by decide) e
      rw [show nb c (1 + 1) = some d from e] at k
      have k' : am_x 100 [.int (nI c), .int (nI 2)] w = some (.inl (some (.int (nI d))), w) := k
      simp only [bk143_0, bk143_9, bk143_5, bk143_10, bk143_13, bk143_21, bk143_17, bx143, k', nI_m1S (show d < 2147483648 by omega), nI_eqS (show 1 < 2147483648 by decide) (show 0 < 2147483648 by decide), Option.bind_some, bct_v, bct_t, otl_s, otl_n, List.cons_append, List.nil_append, List.getElem?_cons_zero, List.getElem?_cons_succ, ↓reduceIte, nI_add, nI_leS, nI_ltS, nI_eqS, nI_m1S, Nat.reduceAdd, Nat.reduceLT, Nat.reduceLeDiff, Nat.reduceMul, Nat.reduceEqDiff, not_true_eq_false, not_false_eq_true]
      exact (bk143_22 (by rfl)).trans rfl
theorem shr_ok : ∀ k, k < 24 → ((nI k &&& 31).toBitVec.smod 32).toNat = k := by decide +kernel
theorem opn_s {n h : Nat} (hn : n < 16777216) (hh : h < 24) : ((bj_ishr (nI n) (nI h) &&& nI 1) = nI 1) = (n.testBit h = true) := by
  have e : bj_ishr (nI n) (nI h) = nI (n / 2 ^ h) := pk_shrN (by omega) (nI h &&& 31) h (shr_ok h hh)
  have hl : n / 2 ^ h < 2 ^ 32 := Nat.lt_of_le_of_lt (Nat.div_le_self _ _) (by omega)
  have e2 : nI (n / 2 ^ h) &&& nI 1 = nI (n / 2 ^ h % 2) := pk_andN hl (m := nI 1) 1 (by decide)
  have e3 : n.testBit h = decide (n / 2 ^ h % 2 = 1) := Nat.testBit_eq_decide_div_mod_eq
  rw [e, e2, e3, nI_eqS (by omega) (by decide)]
  have h3 : n / 2 ^ h % 2 = 0 ∨ n / 2 ^ h % 2 = 1 := by omega
  rcases h3 with q | q <;> rw [q] <;> decide
theorem x42 (R : RMx w g m kq hq ca ba wl ed wad kd hr cp br n ws th mi nd dr me di re) (hh : hrok hr) (hm : mi ≤ 3000) {c j : Nat} (hc : c < 36) (hj : j < 2) : am_x 42 [.ref m, .int (nI c), .int (nI j)] w = some (.inl (some (.int (b2i ((hr (2 * c + j)).testBit (mi / 60 % 24))))), w) := by
  have e := opn_s (hh (2 * c + j)) (h := mi / 60 % 24) (by omega)
  simp only [bx42, bk42_0, gfc R.1, oM_0, oM_1, oM_2, oM_3, oM_4, oM_5, oM_6, oM_7, oM_8, oM_9, oM_10, oM_11, bk42_4, R.2.2.1.row hc, bk42_6, R.2.2.1.at hc hj, bk42_8, bk42_12, nI_divS (show mi < 2147483648 by omega) (show 0 < 60 by decide) (show 60 < 2147483648 by decide), nI_remS (show mi / 60 < 2147483648 by omega) (show 0 < 24 by decide) (show 24 < 2147483648 by decide), e, Option.bind_some, bct_v, bct_t, otl_s, otl_n, List.cons_append, List.nil_append, List.getElem?_cons_zero, List.getElem?_cons_succ, ↓reduceIte]
  cases (hr (2 * c + j)).testBit (mi / 60 % 24) with
  | true => rw [if_neg (fun q => q rfl), bk42_25, bk42_30 (by rfl)]; rfl
  | false => rw [if_pos (fun q => nomatch q), bk42_29, bk42_30 (by rfl)]; rfl
theorem x101 (R : RMx w g m kq hq ca ba wl ed wad kd hr cp br n ws th mi nd dr me di re) (hk : kdok kd) (hh : hrok hr) (hm : mi ≤ 3000) {c j : Nat} (hc : c < 36) (hj : j < 2) : am_x 101 [.ref m, .int (nI c), .int (nI j)] w = some (.inl (some (.int (b2i (clE (kd (2 * c + j)) (hr (2 * c + j)) (mi / 60 % 24))))), w) := by
  have r0 := R.2.1.row hc
  have r1 := R.2.1.at hc hj
  have z := x42 R hh hm hc hj
  have k := hk (2 * c + j)
  unfold clE
  rcases (show kd (2 * c + j) = 0 ∨ kd (2 * c + j) = 1 ∨ kd (2 * c + j) = 2 by omega) with q | q | q
  · rw [q] at r1 ⊢
    simp only [bk101_0, bk101_4, bk101_6, bk101_8, bk101_33, bk101_12, bk101_16, bk101_18, bk101_20, bk101_37, bk101_24, bk101_30, bx101, gfc R.1, oM_0, oM_1, oM_2, oM_3, oM_4, oM_5, oM_6, oM_7, oM_8, oM_9, oM_10, oM_11, r0, r1, Option.bind_some, bct_v, bct_t, otl_s, otl_n, List.cons_append, List.nil_append, List.getElem?_cons_zero, List.getElem?_cons_succ, ↓reduceIte, nI_add, nI_leS, nI_ltS, nI_eqS, nI_m1S, Nat.reduceAdd, Nat.reduceLT, Nat.reduceLeDiff, Nat.reduceMul, Nat.reduceEqDiff, not_true_eq_false, not_false_eq_true]
    exact bk101_38 (by rfl)
  · rw [q] at r1 ⊢
    simp only [bk101_0, bk101_4, bk101_6, bk101_8, bk101_33, bk101_12, bk101_16, bk101_18, bk101_20, bk101_37, bk101_24, bk101_30, bx101, gfc R.1, oM_0, oM_1, oM_2, oM_3, oM_4, oM_5, oM_6, oM_7, oM_8, oM_9, oM_10, oM_11, r0, r1, Option.bind_some, bct_v, bct_t, otl_s, otl_n, List.cons_append, List.nil_append, List.getElem?_cons_zero, List.getElem?_cons_succ, ↓reduceIte, nI_add, nI_leS, nI_ltS, nI_eqS, nI_m1S, Nat.reduceAdd, Nat.reduceLT, Nat.reduceLeDiff, Nat.reduceMul, Nat.reduceEqDiff, not_true_eq_false, not_false_eq_true]
    exact bk101_38 (by rfl)
  · rw [q] at r1 ⊢
    cases y : (hr (2 * c + j)).testBit (mi / 60 % 24) with
    | true =>
      rw [y] at z
      simp only [bk101_0, bk101_4, bk101_6, bk101_8, bk101_33, bk101_12, bk101_16, bk101_18, bk101_20, bk101_37, bk101_24, bk101_30, bx101, gfc R.1, oM_0, oM_1, oM_2, oM_3, oM_4, oM_5, oM_6, oM_7, oM_8, oM_9, oM_10, oM_11, r0, r1, rm_kf R, z, b2i_0, reduceCtorEq, Option.bind_some, bct_v, bct_t, otl_s, otl_n, List.cons_append, List.nil_append, List.getElem?_cons_zero, List.getElem?_cons_succ, ↓reduceIte, nI_add, nI_leS, nI_ltS, nI_eqS, nI_m1S, Nat.reduceAdd, Nat.reduceLT, Nat.reduceLeDiff, Nat.reduceMul, Nat.reduceEqDiff, not_true_eq_false, not_false_eq_true]
      exact bk101_38 (by rfl)
    | false =>
      rw [y] at z
      simp only [bk101_0, bk101_4, bk101_6, bk101_8, bk101_33, bk101_12, bk101_16, bk101_18, bk101_20, bk101_37, bk101_24, bk101_30, bx101, gfc R.1, oM_0, oM_1, oM_2, oM_3, oM_4, oM_5, oM_6, oM_7, oM_8, oM_9, oM_10, oM_11, r0, r1, rm_kf R, z, b2i_0, Option.bind_some, bct_v, bct_t, otl_s, otl_n, List.cons_append, List.nil_append, List.getElem?_cons_zero, List.getElem?_cons_succ, ↓reduceIte, nI_add, nI_leS, nI_ltS, nI_eqS, nI_m1S, Nat.reduceAdd, Nat.reduceLT, Nat.reduceLeDiff, Nat.reduceMul, Nat.reduceEqDiff, not_true_eq_false, not_false_eq_true]
      exact bk101_38 (by rfl)
theorem x173 (R : RMx w g m kq hq ca ba wl ed wad kd hr cp br n ws th mi nd dr me di re) (hk : kdok kd) (hh : hrok hr) (hm : mi ≤ 3000) {c s : Nat} (hc : c < 36) (hs : s < 4) : am_x 173 [.ref m, .int (nI c), .int (nI s)] w = some (.inl (some (.int (b2i (clsS kd hr (mi / 60 % 24) c s)))), w) := by
  have k := x100 (w := w) hc hs
  unfold clsS
  cases e : nb c s with
  | none =>
    rw [e] at k
    have k' : am_x 100 [.int (nI c), .int (nI s)] w = some (.inl (some (.int (-1))), w) := k
    simp only [bx173, bk173_0, k', bk173_5, bk173_25, Option.bind_some, bct_v, bct_t, otl_s, otl_n, List.cons_append, List.nil_append, List.getElem?_cons_zero, List.getElem?_cons_succ, ↓reduceIte]
    exact bk173_30 (by rfl)
  | some d =>
    have hd := nb_lt hc hs e
    rw [e] at k
    have k' : am_x 100 [.int (nI c), .int (nI s)] w = some (.inl (some (.int (nI d))), w) := k
    have z := x101 R hk hh hm (kp_lt hc hs e) (way_lt (s := s))
    rw [← plc_at e] at z
    simp only [bx173, bk173_0, k', bk173_5, nI_m1S (show d < 2147483648 by omega), bk173_9, x142 hc hs e, bk173_15, x41 hs, bk173_19, rm_kf R, z, bk173_22, b2i_0, Option.bind_some, bct_v, bct_t, otl_s, otl_n, List.cons_append, List.nil_append, List.getElem?_cons_zero, List.getElem?_cons_succ, ↓reduceIte]
    cases clE (kd (plc c s)) (hr (plc c s)) (mi / 60 % 24) with
    | true => rw [if_neg (fun q => nomatch q), bk173_25, bk173_30 (by rfl)]; rfl
    | false => rw [if_pos rfl, bk173_29, bk173_30 (by rfl)]; rfl
theorem x174 (h : Mkv w g i a (ho, po, ch, lo, ac, bu, sl, may, mp)) {c s : Nat} (hc : c < 36) (hs : s < 4) : am_x 174 [.ref a, .int (nI c), .int (nI s)] w = some (.inl (some (.int (nI (kno mp c s)))), w) := by
  obtain ⟨ma, mq, h1, h2, h3, -⟩ := h
  have k := x100 (w := w) hc hs
  unfold kno
  cases e : nb c s with
  | none =>
    rw [e] at k
    have k' : am_x 100 [.int (nI c), .int (nI s)] w = some (.inl (some (.int (-1))), w) := k
    simp only [bk174_0, bk174_5, bk174_13, bk174_9, bk174_17, bk174_28, bk174_22, bk174_23, bk174_27, bx174, k', not_true_eq_false, Option.bind_some, bct_v, bct_t, otl_s, otl_n, List.cons_append, List.nil_append, List.getElem?_cons_zero, List.getElem?_cons_succ, ↓reduceIte]
  | some d =>
    have hd := nb_lt hc hs e
    rw [e] at k
    have k' : am_x 100 [.int (nI c), .int (nI s)] w = some (.inl (some (.int (nI d))), w) := k
    have r0 := h3.row (kp_lt hc hs e)
    have r1 := h3.at (kp_lt hc hs e) (way_lt (s := s))
    rw [← plc_at e] at r1
    simp only [bk174_0, bk174_5, bk174_13, bk174_9, bk174_17, bk174_28, bk174_22, bk174_23, bk174_27, bx174, k', nI_m1S (show d < 2147483648 by omega), not_false_eq_true, gfc h1, oK_0, oK_1, oK_2, oK_3, oK_4, oK_5, oK_6, oK_7, oK_8, x142 hc hs e, r0, x41 hs, r1, Option.bind_some, bct_v, bct_t, otl_s, otl_n, List.cons_append, List.nil_append, List.getElem?_cons_zero, List.getElem?_cons_succ, ↓reduceIte]
theorem x175 (h : Mkv w g i a (ho, po, ch, lo, ac, bu, sl, may, mp)) (hi : i < 3) {c s : Nat} (hc : c < 36) (hs : s < 4) (b : Bool) : ∃ w', am_x 175 [.ref a, .int (nI c), .int (nI s), .int (b2i b)] w = some (.inl none, w') ∧ Mkv w' g i a (ho, po, ch, lo, ac, bu, sl, may, putM mp c s b) ∧ frm g (400 + 100 * i) (436 + 100 * i) w w' := by
  have h0 := h
  obtain ⟨ma, mq, h1, h2, h3, g1, g2, g3⟩ := h
  have k := x100 (w := w) hc hs
  unfold putM
  cases e : nb c s with
  | none =>
    rw [e] at k
    have k' : am_x 100 [.int (nI c), .int (nI s)] w = some (.inl (some (.int (-1))), w) := k
    rw [if_pos rfl]
    refine ⟨w, ?_, h0, frm_rf⟩
    simp only [bx175, bk175_0, k', bk175_5, bk175_33, Option.bind_some, bct_v, bct_t, otl_s, otl_n, List.cons_append, List.nil_append, List.getElem?_cons_zero, List.getElem?_cons_succ, ↓reduceIte]
  | some d =>
    have hd := nb_lt hc hs e
    rw [e] at k
    have k' : am_x 100 [.int (nI c), .int (nI s)] w = some (.inl (some (.int (nI d))), w) := k
    have r0 := h3.row (kp_lt hc hs e)
    obtain ⟨w', p1, p2, p3⟩ := h3.put (by omega) (kp_lt hc hs e) (way_lt (s := s)) (v := if b = true then 2 else 1)
    rw [← plc_at e] at p2
    rw [if_neg (fun q => nomatch q)]
    refine ⟨w', ?_, ⟨ma, mq, cO_of h1 (p3.1 a (by omega)), h2.of (p3.1 ma (by omega)), p2, g1, g2, g3⟩, frm_wk p3 (by omega) (by omega)⟩
    cases b with
    | true =>
      have p1' : am_wi 0 w (mq + 1 + (if s = 0 ∨ s = 3 then d else c)) (nI (if s = 1 ∨ s = 3 then 0 else 1)) (nI 2) = some w' := p1
      simp only [bk175_0, bk175_5, bk175_33, bk175_9, bk175_13, bk175_18, bk175_19, bk175_23, bk175_31, bk175_27, bk175_32, bx175, k', nI_m1S (show d < 2147483648 by omega), gfc h1, oK_0, oK_1, oK_2, oK_3, oK_4, oK_5, oK_6, oK_7, oK_8, x142 hc hs e, r0, x41 hs, b2i_0, reduceCtorEq, p1', Option.bind_some, bct_v, bct_t, otl_s, otl_n, List.cons_append, List.nil_append, List.getElem?_cons_zero, List.getElem?_cons_succ, ↓reduceIte]
    | false =>
      have p1' : am_wi 0 w (mq + 1 + (if s = 0 ∨ s = 3 then d else c)) (nI (if s = 1 ∨ s = 3 then 0 else 1)) (nI 1) = some w' := p1
      simp only [bk175_0, bk175_5, bk175_33, bk175_9, bk175_13, bk175_18, bk175_19, bk175_23, bk175_31, bk175_27, bk175_32, bx175, k', nI_m1S (show d < 2147483648 by omega), gfc h1, oK_0, oK_1, oK_2, oK_3, oK_4, oK_5, oK_6, oK_7, oK_8, x142 hc hs e, r0, x41 hs, b2i_0, p1', Option.bind_some, bct_v, bct_t, otl_s, otl_n, List.cons_append, List.nil_append, List.getElem?_cons_zero, List.getElem?_cons_succ, ↓reduceIte]
/-- sums over rows of yes and no -/
theorem x44 {b n : Nat} {f : Nat → Int32} {p : Nat → Bool} (h : cI w b 2 n f) (hf : ∀ c, c < n → f c = b2i (p c)) (hn : n < 2147483648) : am_x 44 [.ref b] w = some (.inl (some (.int (nI (cnt n p)))), w) := by
  simp only [bx44, bk44_0, lenI h (by decide), bk44_6, Option.bind_some, bct_v, bct_t, otl_s, otl_n, List.cons_append, List.nil_append, List.getElem?_cons_zero, List.getElem?_cons_succ, ↓reduceIte]
  have e := csum (n := n) (p := p) (Q := fun k a => am_run 44 10 [none, some (.int (nI a)), some (.ref b), some (.int (nI n)), some (.int (nI k)), none] [] w) (fun k a hk => by
    try dsimp only
    have r := ric h (i := k) rfl hk hn
    rw [hf k hk] at r
    rw [bk44_10, if_neg (by rw [nI_leS (by omega) (by omega)]; omega)]
    simp only [bk44_16, r, bk44_20, b2i_0, Option.bind_some, bct_v, bct_t, otl_s, otl_n, List.cons_append, List.nil_append, List.getElem?_cons_zero, List.getElem?_cons_succ, ↓reduceIte]
    cases p k with
    | true => rw [if_neg (fun q => nomatch q), bk44_28, bk44_33, nI_add, nI_add]; rfl
    | false => rw [if_pos rfl, bk44_32, bk44_33, nI_add, nI_add]; rfl)
  refine Eq.trans e ?_
  try dsimp only
  rw [bk44_10, if_pos (by rw [nI_leS (by omega) (by omega)]; omega), bk44_41]
theorem x37 (h : Mkv w g i a (ho, po, ch, lo, ac, bu, sl, may, mp)) : am_x 37 [.ref a] w = some (.inl (some (.int (nI (cnt 144 may)))), w) := by
  obtain ⟨ma, mq, h1, h2, h3, -⟩ := h
  simp only [bx37, bk37_0, gfc h1, oK_0, oK_1, oK_2, oK_3, oK_4, oK_5, oK_6, oK_7, oK_8, bk37_6, h2.len, bk37_9, Option.bind_some, bct_v, bct_t, otl_s, otl_n, List.cons_append, List.nil_append, List.getElem?_cons_zero, List.getElem?_cons_succ, ↓reduceIte]
  have e := csum (n := 144) (p := may) (Q := fun k a => am_run 37 13 [none, some (.int (nI a)), some (.ref ma), some (.int (nI 144)), some (.int (nI k)), none] [] w) (fun k a hk => by
    try dsimp only
    have r := h2.at hk
    rw [bk37_13, if_neg (by rw [nI_leS (by omega) (by omega)]; omega)]
    simp only [bk37_19, r, bk37_23, b2i_0, Option.bind_some, bct_v, bct_t, otl_s, otl_n, List.cons_append, List.nil_append, List.getElem?_cons_zero, List.getElem?_cons_succ, ↓reduceIte]
    cases may k with
    | true => rw [if_neg (fun q => nomatch q), bk37_31, bk37_36, nI_add, nI_add]; rfl
    | false => rw [if_pos rfl, bk37_35, bk37_36, nI_add, nI_add]; rfl)
  refine Eq.trans e ?_
  try dsimp only
  rw [bk37_13, if_pos (by rw [nI_leS (by decide) (by decide)]; decide), bk37_44]
theorem x95 (h : Mkv w g i a (ho, po, ch, lo, ac, bu, sl, may, mp)) : am_x 95 [.ref a] w = some (.inl (some (.int (no (sureP may)))), w) := by
  have z := x37 h
  have kf := mk_kf h
  have hl := cnt_le may 144
  obtain ⟨ma, mq, h1, h2, h3, -⟩ := h
  simp only [bx95, bk95_0, kf, z, bk95_4, nI_eqS (show cnt 144 may < 2147483648 by omega) (show 1 < 2147483648 by decide), Option.bind_some, bct_v, bct_t, otl_s, otl_n, List.cons_append, List.nil_append, List.getElem?_cons_zero, List.getElem?_cons_succ, ↓reduceIte]
  unfold sureP
  by_cases h : cnt 144 may = 1
  · rw [if_pos h, if_pos h, bk95_10]
    cases e : fst1 144 may with
    | none =>
      exfalso
      have : cnt 144 may = cnt 144 (fun _ => false) := cnt_cg 144 (fun c hc => fst1_none e c hc)
      rw [this] at h
      have : cnt 144 (fun _ => false) = 0 := cnt_ff 144
      omega
    | some p =>
      obtain ⟨p1, p2, p3⟩ := fst1_some e
      have go : ∀ k, k ≤ p → am_run 95 12 [some (.ref a), some (.int (nI 0))] [] w = am_run 95 12 [some (.ref a), some (.int (nI k))] [] w := by
        intro k
        induction k with
        | zero => exact fun _ => rfl
        | succ k ih =>
          intro hk
          have r := h2.at (p := k) (by omega)
          rw [p3 k (by omega)] at r
          rw [ih (by omega), bk95_12]
          simp only [gfc h1, oK_0, oK_1, oK_2, oK_3, oK_4, oK_5, oK_6, oK_7, oK_8, bk95_16, r, bk95_18, b2i_0, not_true_eq_false, bk95_21, nI_add, Option.bind_some, bct_v, bct_t, otl_s, otl_n, List.cons_append, List.nil_append, List.getElem?_cons_zero, List.getElem?_cons_succ, ↓reduceIte]
      have r := h2.at (p := p) (by omega)
      rw [p2] at r
      rw [go p (Nat.le_refl p), bk95_12]
      simp only [gfc h1, oK_0, oK_1, oK_2, oK_3, oK_4, oK_5, oK_6, oK_7, oK_8, bk95_16, r, bk95_18, b2i_0, reduceCtorEq, not_false_eq_true, bk95_27, Option.bind_some, bct_v, bct_t, otl_s, otl_n, List.cons_append, List.nil_append, List.getElem?_cons_zero, List.getElem?_cons_succ, ↓reduceIte]
      rfl
  · rw [if_neg h, if_neg h, bk95_8]
    rfl
end MO2
