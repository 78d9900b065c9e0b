/-! THE FLOOR, the class's. Mine. -/
def arI (K : Nat → Nat) (n : Nat) : am_En := .inl (0, n, .inl (fun j => nI (K j)))
/-- the floor's cells -/
def Flv (w : am_Wd) (fl ka ha : Nat) (kd hr : Nat → Nat) (C B : Nat) : Prop := cO w fl 5 [.ref ka, .ref ha, .long (lN C), .long (lN B)] ∧ cI w ka 0 72 (fun j => nI (kd j)) ∧ cI w ha 0 72 (fun j => nI (hr j))
theorem Flv.of {w w' : am_Wd} {fl ka ha C B : Nat} {kd hr : Nat → Nat} (h : Flv w fl ka ha kd hr C B) (e1 : w'.1 fl = w.1 fl) (e2 : w'.1 ka = w.1 ka) (e3 : w'.1 ha = w.1 ha) : Flv w' fl ka ha kd hr C B := ⟨cO_of h.1 e1, cI_of h.2.1 e2, cI_of h.2.2 e3⟩
def hrok (hr : Nat → Nat) : Prop := ∀ k, hr k < 16777216
def kdok (kd : Nat → Nat) : Prop := ∀ k, kd k ≤ 2
/-- is an edge as good as a wall, by its kind and hours -/
def clE (k n h : Nat) : Bool := k == 1 || (k == 2 && !(n.testBit h))
def clsS (kd hr : Nat → Nat) (h c s : Nat) : Bool := match nb c s with
  | none => true
  | some _ => clE (kd (plc c s)) (hr (plc c s)) h
def kndS (kd : Nat → Nat) (c s : Nat) : Nat := match nb c s with
  | none => 1
  | some _ => kd (plc c s)
def hrsS (hr : Nat → Nat) (c s : Nat) : Nat := match nb c s with
  | none => 0
  | some _ => hr (plc c s)
def flt3 (a b c : Bool) : Nat := (if a = true then 1 else 0) + (if b = true then 2 else 0) + (if c = true then 4 else 0)
theorem flt3_lt (a b c : Bool) : flt3 a b c < 8 := by cases a <;> cases b <;> cases c <;> decide
theorem flt3_0 (a b c : Bool) : (flt3 a b c).testBit 0 = a := by cases a <;> cases b <;> cases c <;> decide
theorem flt3_1 (a b c : Bool) : (flt3 a b c).testBit 1 = b := by cases a <;> cases b <;> cases c <;> decide
theorem flt3_2 (a b c : Bool) : (flt3 a b c).testBit 2 = c := by cases a <;> cases b <;> cases c <;> decide
def fltS (kd hr : Nat → Nat) (h c s : Nat) : Nat := flt3 (clsS kd hr h c ((s + 3 + 0) % 4)) (clsS kd hr h c ((s + 3 + 1) % 4)) (clsS kd hr h c ((s + 3 + 2) % 4))
theorem sh_ok : ∀ k, k < 24 → (((nI k).toUInt32 &&& Int32.toUInt32 31).toBitVec % 32).toNat = k := by decide +kernel
theorem opn_u {n h : Nat} (hn : n < 16777216) (hh : h < 24) : ((bj_iushr (nI n) (nI h) &&& nI 1) = nI 0) = (n.testBit h = false) := by
  have e : bj_iushr (nI n) (nI h) = nI (n / 2 ^ h) := pk_ushrN (by omega) (nI h) h (sh_ok h hh)
  have hl : n / 2 ^ h < 2 ^ 32 := Nat.lt_of_le_of_lt (Nat.div_le_self _ _) (by omega)
  have e2 : nI (n / 2 ^ h) &&& nI 1 = nI (n / 2 ^ h % 2) := pk_andN hl (m := nI 1) 1 (by decide)
  have e3 : n.testBit h = decide (n / 2 ^ h % 2 = 1) := Nat.testBit_eq_decide_div_mod_eq
  rw [e, e2, e3, nI_eqS (by omega) (by decide)]
  have h3 : n / 2 ^ h % 2 = 0 ∨ n / 2 ^ h % 2 = 1 := by omega
  rcases h3 with q | q <;> rw [q] <;> decide
section FLO
variable {w : am_Wd} {fl ka ha C B h : Nat} {kd hr : Nat → Nat}
theorem x9 {n : Nat} (hn : n < 16777216) (hh : h < 24) : am_x 9 [.int (nI n), .int (nI h)] w = some (.inl (some (.int (b2i (n.testBit h)))), w) := by
  rw [bx9, bk9_0]
  cases e : n.testBit h with
  | true =>
    rw [if_neg (by rw [opn_u hn hh, e]; decide), bk9_8, bk9_13 (by rfl)]
    rfl
  | false =>
    rw [if_pos (by rw [opn_u hn hh, e]), bk9_12, bk9_13 (by rfl)]
    rfl
theorem x124 (hF : Flv w fl ka ha kd hr C B) {c s : Nat} (hc : c < 36) (hs : s < 4) : am_x 124 [.ref fl, .int (nI c), .int (nI s)] w = some (.inl (some (.int (nI (kndS kd c s)))), w) := by
  rw [bx124]
  unfold kndS
  cases e : nb c s with
  | none =>
    have h1 := x76 (w := w) hc hs
    rw [if_pos e] at h1
    simp only [bk124_0, bk124_5, bk124_10, bk124_22, bk124_13, bk124_23, bk124_17, bk124_19, bx124, h1, isPn, Option.bind_some, bct_v, bct_t, otl_s, otl_n, List.cons_append, List.nil_append, List.getElem?_cons_zero, List.getElem?_cons_succ, ↓reduceIte, nI_add, nI_leS, nI_ltS, nI_eqS, nI_m1S, Nat.reduceAdd, Nat.reduceLT, Nat.reduceLeDiff, Nat.reduceMul, Nat.reduceEqDiff, not_true_eq_false, not_false_eq_true]
  | some d =>
    have h1 := x76 (w := w) hc hs
    rw [if_neg (by rw [e]; exact fun h => nomatch h)] at h1
    have hp := plc_lt hc hs (by rw [e]; exact fun h => nomatch h)
    have h2 := isP (w := w) hp
    have r0 := ric hF.2.1 (i := plc c s) rfl hp (by decide)
    simp only [bk124_0, bk124_5, bk124_10, bk124_22, bk124_13, bk124_23, bk124_17, bk124_19, bx124, h1, h2, gfc hF.1, r0, Option.bind_some, bct_v, bct_t, otl_s, otl_n, List.cons_append, List.nil_append, List.getElem?_cons_zero, List.getElem?_cons_succ, ↓reduceIte, nI_add, nI_leS, nI_ltS, nI_eqS, nI_m1S, Nat.reduceAdd, Nat.reduceLT, Nat.reduceLeDiff, Nat.reduceMul, Nat.reduceEqDiff, not_true_eq_false, not_false_eq_true]
theorem x125 (hF : Flv w fl ka ha kd hr C B) {c s : Nat} (hc : c < 36) (hs : s < 4) : am_x 125 [.ref fl, .int (nI c), .int (nI s)] w = some (.inl (some (.int (nI (hrsS hr c s)))), w) := by
  rw [bx125]
  unfold hrsS
  cases e : nb c s with
  | none =>
    have h1 := x76 (w := w) hc hs
    rw [if_pos e] at h1
    simp only [bk125_0, bk125_5, bk125_10, bk125_22, bk125_13, bk125_23, bk125_17, bk125_19, bx125, h1, isPn, Option.bind_some, bct_v, bct_t, otl_s, otl_n, List.cons_append, List.nil_append, List.getElem?_cons_zero, List.getElem?_cons_succ, ↓reduceIte, nI_add, nI_leS, nI_ltS, nI_eqS, nI_m1S, Nat.reduceAdd, Nat.reduceLT, Nat.reduceLeDiff, Nat.reduceMul, Nat.reduceEqDiff, not_true_eq_false, not_false_eq_true]
  | some d =>
    have h1 := x76 (w := w) hc hs
    rw [if_neg (by rw [e]; exact fun h => nomatch h)] at h1
    have hp := plc_lt hc hs (by rw [e]; exact fun h => nomatch h)
    have h2 := isP (w := w) hp
    have r0 := ric hF.2.2 (i := plc c s) rfl hp (by decide)
    simp only [bk125_0, bk125_5, bk125_10, bk125_22, bk125_13, bk125_23, bk125_17, bk125_19, bx125, h1, h2, gfc hF.1, r0, Option.bind_some, bct_v, bct_t, otl_s, otl_n, List.cons_append, List.nil_append, List.getElem?_cons_zero, List.getElem?_cons_succ, ↓reduceIte, nI_add, nI_leS, nI_ltS, nI_eqS, nI_m1S, Nat.reduceAdd, Nat.reduceLT, Nat.reduceLeDiff, Nat.reduceMul, Nat.reduceEqDiff, not_true_eq_false, not_false_eq_true]
theorem x126 (hF : Flv w fl ka ha kd hr C B) (hk : kdok kd) (ho : hrok hr) {c s : Nat} (hc : c < 36) (hs : s < 4) (hh : h < 24) : am_x 126 [.ref fl, .int (nI c), .int (nI s), .int (nI h)] w = some (.inl (some (.int (b2i (clsS kd hr h c s)))), w) := by
  rw [bx126]
  unfold clsS
  cases e : nb c s with
  | none =>
    have h1 := x76 (w := w) hc hs
    rw [if_pos e] at h1
    simp only [bk126_0, bk126_5, bk126_12, bk126_26, bk126_15, bk126_19, bk126_22, bk126_28, bk126_32, bk126_35, bk126_57, bk126_39, bk126_43, bk126_46, bk126_50, bk126_53, bx126, h1, isPn, Option.bind_some, bct_v, bct_t, otl_s, otl_n, List.cons_append, List.nil_append, List.getElem?_cons_zero, List.getElem?_cons_succ, ↓reduceIte, nI_add, nI_leS, nI_ltS, nI_eqS, nI_m1S, Nat.reduceAdd, Nat.reduceLT, Nat.reduceLeDiff, Nat.reduceMul, Nat.reduceEqDiff, not_true_eq_false, not_false_eq_true]
    rfl
  | some d =>
    have h1 := x76 (w := w) hc hs
    rw [if_neg (by rw [e]; exact fun h => nomatch h)] at h1
    have hp := plc_lt hc hs (by rw [e]; exact fun h => nomatch h)
    have h2 := isP (w := w) hp
    have r0 := ric hF.2.1 (i := plc c s) rfl hp (by decide)
    have r1 := ric hF.2.2 (i := plc c s) rfl hp (by decide)
    have h9 := x9 (w := w) (ho (plc c s)) hh
    have k := hk (plc c s)
    try dsimp only
    unfold clE
    rcases (show kd (plc c s) = 0 ∨ kd (plc c s) = 1 ∨ kd (plc c s) = 2 by omega) with q | q | q
    · rw [q] at r0 ⊢
      simp only [bk126_0, bk126_5, bk126_12, bk126_26, bk126_15, bk126_19, bk126_22, bk126_28, bk126_32, bk126_35, bk126_57, bk126_39, bk126_43, bk126_46, bk126_50, bk126_53, bx126, h1, h2, gfc hF.1, r0, Option.bind_some, bct_v, bct_t, otl_s, otl_n, List.cons_append, List.nil_append, List.getElem?_cons_zero, List.getElem?_cons_succ, ↓reduceIte, nI_add, nI_leS, nI_ltS, nI_eqS, nI_m1S, Nat.reduceAdd, Nat.reduceLT, Nat.reduceLeDiff, Nat.reduceMul, Nat.reduceEqDiff, not_true_eq_false, not_false_eq_true]
      exact bk126_58 (by rfl)
    · rw [q] at r0 ⊢
      simp only [bk126_0, bk126_5, bk126_12, bk126_26, bk126_15, bk126_19, bk126_22, bk126_28, bk126_32, bk126_35, bk126_57, bk126_39, bk126_43, bk126_46, bk126_50, bk126_53, bx126, h1, h2, gfc hF.1, r0, Option.bind_some, bct_v, bct_t, otl_s, otl_n, List.cons_append, List.nil_append, List.getElem?_cons_zero, List.getElem?_cons_succ, ↓reduceIte, nI_add, nI_leS, nI_ltS, nI_eqS, nI_m1S, Nat.reduceAdd, Nat.reduceLT, Nat.reduceLeDiff, Nat.reduceMul, Nat.reduceEqDiff, not_true_eq_false, not_false_eq_true]
      rfl
    · rw [q] at r0 ⊢
      cases z : (hr (plc c s)).testBit h with
      | true =>
        rw [z] at h9
        simp only [bk126_0, bk126_5, bk126_12, bk126_26, bk126_15, bk126_19, bk126_22, bk126_28, bk126_32, bk126_35, bk126_57, bk126_39, bk126_43, bk126_46, bk126_50, bk126_53, bx126, h1, h2, gfc hF.1, r0, r1, h9, b2i_0, reduceCtorEq, Option.bind_some, bct_v, bct_t, otl_s, otl_n, List.cons_append, List.nil_append, List.getElem?_cons_zero, List.getElem?_cons_succ, ↓reduceIte, nI_add, nI_leS, nI_ltS, nI_eqS, nI_m1S, Nat.reduceAdd, Nat.reduceLT, Nat.reduceLeDiff, Nat.reduceMul, Nat.reduceEqDiff, not_true_eq_false, not_false_eq_true]
        exact bk126_58 (by rfl)
      | false =>
        rw [z] at h9
        simp only [bk126_0, bk126_5, bk126_12, bk126_26, bk126_15, bk126_19, bk126_22, bk126_28, bk126_32, bk126_35, bk126_57, bk126_39, bk126_43, bk126_46, bk126_50, bk126_53, bx126, h1, h2, gfc hF.1, r0, r1, h9, b2i_0, Option.bind_some, bct_v, bct_t, otl_s, otl_n, List.cons_append, List.nil_append, List.getElem?_cons_zero, List.getElem?_cons_succ, ↓reduceIte, nI_add, nI_leS, nI_ltS, nI_eqS, nI_m1S, Nat.reduceAdd, Nat.reduceLT, Nat.reduceLeDiff, Nat.reduceMul, Nat.reduceEqDiff, not_true_eq_false, not_false_eq_true]
        exact bk126_58 (by rfl)
theorem felt_or (a b c : Bool) : (if c = true then (if b = true then (if a = true then nI 0 ||| bj_ishl (nI 1) (nI 0) else nI 0) ||| bj_ishl (nI 1) (nI 1) else (if a = true then nI 0 ||| bj_ishl (nI 1) (nI 0) else nI 0)) ||| bj_ishl (nI 1) (nI 2) else (if b = true then (if a = true then nI 0 ||| bj_ishl (nI 1) (nI 0) else nI 0) ||| bj_ishl (nI 1) (nI 1) else (if a = true then nI 0 ||| bj_ishl (nI 1) (nI 0) else nI 0))) = nI (flt3 a b c) := by
  cases a <;> cases b <;> cases c <;> decide
theorem it158 (hF : Flv w fl ka ha kd hr C B) (hk : kdok kd) (ho : hrok hr) {c s k : Nat} (hc : c < 36) (hs : s < 4) (hh : h < 24) (hk3 : k < 3) (x : Int32) : am_run 158 6 [some (.ref fl), some (.int (nI c)), some (.int (nI s)), some (.int (nI h)), some (.int x), some (.int (nI k))] [] w = am_run 158 6 [some (.ref fl), some (.int (nI c)), some (.int (nI s)), some (.int (nI h)), some (.int (if clsS kd hr h c ((s + 3 + k) % 4) = true then x ||| bj_ishl (nI 1) (nI k) else x)), some (.int (nI (k + 1)))] [] w := by
  have h1 := x126 hF hk ho hc (s := (s + 3 + k) % 4) (by omega) hh
  rw [bk158_6, if_neg (by rw [nI_leS (by omega) (by omega)]; omega)]
  simp only [bk158_12, fsd hs hk3, bk158_20, kfc hF.1, h1, bk158_24, b2i_0, Option.bind_some, bct_v, bct_t, otl_s, otl_n, List.cons_append, List.nil_append, List.getElem?_cons_zero, List.getElem?_cons_succ, ↓reduceIte]
  cases clsS kd hr h c ((s + 3 + k) % 4) with
  | true => simp only [reduceCtorEq, ↓reduceIte, bk158_27, bk158_36, nI_add]
  | false => simp only [reduceCtorEq, ↓reduceIte, bk158_36, nI_add]
theorem x158 (hF : Flv w fl ka ha kd hr C B) (hk : kdok kd) (ho : hrok hr) {c s : Nat} (hc : c < 36) (hs : s < 4) (hh : h < 24) : am_x 158 [.ref fl, .int (nI c), .int (nI s), .int (nI h)] w = some (.inl (some (.int (nI (fltS kd hr h c s)))), w) := by
  rw [bx158, bk158_0, it158 hF hk ho hc hs hh (by decide), it158 hF hk ho hc hs hh (by decide), it158 hF hk ho hc hs hh (by decide), bk158_6, if_pos (by rw [nI_leS (by decide) (by decide)]; decide), bk158_42]
  unfold fltS
  rw [← felt_or]
theorem x10 (hF : Flv w fl ka ha kd hr C B) (hk : kdok kd) {q : Nat} (hq : q < 3) : am_x 10 [.ref fl, .int (nI q)] w = some (.inl (some (.int (nI (cnt 72 (fun k => kd k == q))))), w) := by
  rw [bx10, bk10_0]
  have e := csum (n := 72) (p := fun k => kd k == q) (Q := fun k a => am_run 10 4 [some (.ref fl), some (.int (nI q)), some (.int (nI a)), some (.int (nI k))] [] w) (fun k a hk1 => by
    try dsimp only
    have r0 := ric hF.2.1 (i := k) rfl hk1 (by decide)
    have kk := hk k
    rw [bk10_4, if_neg (by rw [nI_leS (by omega) (by omega)]; omega)]
    simp only [bk10_10, gfc hF.1, bk10_14, r0, bk10_16, nI_eqS (show kd k < 2147483648 by omega) (show q < 2147483648 by omega), Option.bind_some, bct_v, bct_t, otl_s, otl_n, List.cons_append, List.nil_append, List.getElem?_cons_zero, List.getElem?_cons_succ, ↓reduceIte]
    by_cases z : kd k = q
    · rw [if_neg (fun n => n z), bk10_20, bk10_23, nI_add, nI_add, if_pos (beq_iff_eq.mpr z)]
    · rw [if_pos z, bk10_23, nI_add, if_neg (fun n => z (beq_iff_eq.mp n))]
      rfl)
  refine Eq.trans e ?_
  try dsimp only
  rw [bk10_4, if_pos (by rw [nI_leS (by decide) (by decide)]; decide), bk10_29]
theorem x77 (hF : Flv w fl ka ha kd hr C B) (hk : kdok kd) (ho : hrok hr) (hh : h < 24) : am_x 77 [.ref fl, .int (nI h)] w = some (.inl (some (.int (nI (cnt 72 (fun k => kd k == 2 && (hr k).testBit h))))), w) := by
  rw [bx77, bk77_0]
  have e := csum (n := 72) (p := fun k => kd k == 2 && (hr k).testBit h) (Q := fun k a => am_run 77 4 [some (.ref fl), some (.int (nI h)), some (.int (nI a)), some (.int (nI k))] [] w) (fun k a hk1 => by
    try dsimp only
    have r0 := ric hF.2.1 (i := k) rfl hk1 (by decide)
    have r1 := ric hF.2.2 (i := k) rfl hk1 (by decide)
    have h9 := x9 (w := w) (ho k) hh
    have kk := hk k
    rw [bk77_4, if_neg (by rw [nI_leS (by omega) (by omega)]; omega)]
    simp only [bk77_10, gfc hF.1, bk77_14, r0, bk77_16, nI_eqS (show kd k < 2147483648 by omega) (show 2 < 2147483648 by decide), Option.bind_some, bct_v, bct_t, otl_s, otl_n, List.cons_append, List.nil_append, List.getElem?_cons_zero, List.getElem?_cons_succ, ↓reduceIte]
    by_cases z : kd k = 2
    · rw [if_neg (fun n => n z), z]
      cases y : (hr k).testBit h with
      | true =>
        rw [y] at h9
        simp only [bk77_20, gfc hF.1, bk77_24, r1, bk77_26, h9, bk77_30, b2i_0, reduceCtorEq, bk77_33, bk77_36, nI_add, Option.bind_some, bct_v, bct_t, otl_s, otl_n, List.cons_append, List.nil_append, List.getElem?_cons_zero, List.getElem?_cons_succ, ↓reduceIte]
        rfl
      | false =>
        rw [y] at h9
        simp only [bk77_20, gfc hF.1, bk77_24, r1, bk77_26, h9, bk77_30, b2i_0, bk77_36, nI_add, Option.bind_some, bct_v, bct_t, otl_s, otl_n, List.cons_append, List.nil_append, List.getElem?_cons_zero, List.getElem?_cons_succ, ↓reduceIte]
        rfl
    · rw [if_pos z, bk77_36, nI_add, if_neg (fun n => z (beq_iff_eq.mp (Bool.and_eq_true_iff.mp n).1))]
      rfl)
  refine Eq.trans e ?_
  try dsimp only
  rw [bk77_4, if_pos (by rw [nI_leS (by decide) (by decide)]; decide), bk77_42]
theorem ptI_up {a n : Nat} {M : Nat → Nat} {s K : Nat} : (Sum.inl (0, n, Sum.inl (upd (fun j => nI (M j)) s (nI K))) : am_En) = arI (up M s K) n := by
  rw [upI]
  rfl
/-- an edge told -/
theorem x123 (hF : Flv w fl ka ha kd hr C B) {c s k n : Nat} (hc : c < 36) (hs : s < 4) (hk : k ≤ 2) (hd : nb c s ≠ none) (n1 : fl ≠ ka) (n2 : ha ≠ ka) : am_x 123 [.ref fl, .int (nI c), .int (nI s), .int (nI k), .int (nI n)] w = some (.inl none, am_pt (am_pt w ka (arI (up kd (plc c s) k) 72)) ha (arI (up hr (plc c s) (if k = 2 then n else 0)) 72)) := by
  have h1 := x76 (w := w) hc hs
  rw [if_neg hd] at h1
  have hp := plc_lt hc hs hd
  have h2 := isP (w := w) hp
  have w1 : am_wi 0 w ka (nI (plc c s)) (nI k) = some (am_pt w ka (arI (up kd (plc c s) k) 72)) := by rw [wic hF.2.1 hp (by decide), ptI_up (a := 0)]
  have hO : cO (am_pt w ka (arI (up kd (plc c s) k) 72)) fl 5 [.ref ka, .ref ha, .long (lN C), .long (lN B)] := cO_of hF.1 (pt_n n1)
  have hH : cI (am_pt w ka (arI (up kd (plc c s) k) 72)) ha 0 72 (fun j => nI (hr j)) := cI_of hF.2.2 (pt_n n2)
  have w2 : ∀ z, am_wi 0 (am_pt w ka (arI (up kd (plc c s) k) 72)) ha (nI (plc c s)) (nI z) = some (am_pt (am_pt w ka (arI (up kd (plc c s) k) 72)) ha (arI (up hr (plc c s) z) 72)) := fun z => by rw [wic hH hp (by decide), ptI_up (a := 0)]
  rw [bx123]
  simp only [bk123_0, h1, bk123_5, h2, bk123_12, nI_eqS (show 1 < 2147483648 by decide) (show 0 < 2147483648 by decide), bk123_15, gfc hF.1, bk123_19, w1, bk123_23, gfc hO, bk123_27, nI_eqS (show k < 2147483648 by omega) (show 2 < 2147483648 by decide), Nat.reduceEqDiff, reduceCtorEq, Option.bind_some, bct_v, bct_t, otl_s, otl_n, List.cons_append, List.nil_append, List.getElem?_cons_zero, List.getElem?_cons_succ, ↓reduceIte]
  by_cases z : k = 2
  · rw [if_neg (fun q => q z), if_pos z, bk123_34, bk123_40, w2]
    show am_run 123 41 _ [] _ = _
    rw [bk123_41]
  · rw [if_pos z, if_neg z, bk123_39, bk123_40, w2]
    show am_run 123 41 _ [] _ = _
    rw [bk123_41]
theorem x27 {n : Nat} (hn : n < 127) : am_x 27 [.int (nI n)] w = some (.inl (some (.int (nI ((29 * n + 13) % 127)))), w) := by
  rw [bx27, bk27_0, nI_mulS, nI_add, nI_remS (by omega) (by decide) (by decide)]
/-- walls laid by a seed -/
abbrev sLay : Type := Nat × (Nat → Nat) × (Nat → Nat)
def lay1 (c s : Nat) (z : sLay) : sLay := if nb c s = none then z else ((29 * z.1 + 13) % 127, up z.2.1 (plc c s) (if 40 ≤ (29 * z.1 + 13) % 127 then 0 else 1), up z.2.2 (plc c s) 0)
def layN : Nat → sLay → sLay
  | 0, z => z
  | c + 1, z => lay1 c 2 (lay1 c 1 (layN c z))
theorem lay1_lt {c s : Nat} {z : sLay} (h : z.1 < 127) : (lay1 c s z).1 < 127 := by
  unfold lay1
  split
  · exact h
  · exact Nat.mod_lt _ (by decide)
theorem layN_lt {z : sLay} (h : z.1 < 127) : ∀ c, (layN c z).1 < 127
  | 0 => h
  | c + 1 => lay1_lt (lay1_lt (layN_lt h c))
theorem it157 (hF : Flv w fl ka ha kd hr C B) {c s : Nat} (hc : c < 36) (hs : s = 1 ∨ s = 2) {z : sLay} (hz : z.1 < 127) (n1 : fl ≠ ka) (n2 : ha ≠ ka) (n3 : fl ≠ ha) : am_run 157 13 [some (.ref fl), none, some (.int (nI z.1)), some (.int (nI c)), some (.int (nI s))] [] (two w ka ha (arI z.2.1 72) (arI z.2.2 72)) = am_run 157 13 [some (.ref fl), none, some (.int (nI (lay1 c s z).1)), some (.int (nI c)), some (.int (nI (s + 1)))] [] (two w ka ha (arI (lay1 c s z).2.1 72) (arI (lay1 c s z).2.2 72)) := by
  have hs4 : s < 4 := by omega
  have hF' : Flv (two w ka ha (arI z.2.1 72) (arI z.2.2 72)) fl ka ha z.2.1 z.2.2 C B := ⟨cO_of hF.1 (two_n n1 n3), two_a n2.symm, two_b⟩
  rw [bk157_13, if_neg (by rw [nI_ltS (by omega) (by omega)]; omega)]
  simp only [bk157_19, ahd hc hs4, bk157_25, Option.bind_some, bct_v, bct_t, otl_s, otl_n, List.cons_append, List.nil_append, List.getElem?_cons_zero, List.getElem?_cons_succ, ↓reduceIte]
  unfold lay1
  cases e : nb c s with
  | none =>
    rw [if_pos (show no none = (-1 : Int32) from rfl), if_pos rfl, bk157_53, nI_add]
  | some d =>
    have hd := nb_lt hc hs4 e
    have hne : ¬ no (some d) = (-1 : Int32) := by
      show ¬ nI d = -1
      rw [nI_m1S (by omega)]
      exact id
    have hn : nb c s ≠ none := by rw [e]; exact fun h => nomatch h
    have hl : (29 * z.1 + 13) % 127 < 127 := Nat.mod_lt _ (by decide)
    rw [if_neg hne, if_neg (fun h => nomatch h)]
    simp only [bk157_29, x27 hz, bk157_33, nI_leS (show 40 < 2147483648 by decide) (show (29 * z.1 + 13) % 127 < 2147483648 by omega), Option.bind_some, bct_v, bct_t, otl_s, otl_n, List.cons_append, List.nil_append, List.getElem?_cons_zero, List.getElem?_cons_succ, ↓reduceIte]
    have tw : ∀ k, am_pt (am_pt (two w ka ha (arI z.2.1 72) (arI z.2.2 72)) ka (arI (up z.2.1 (plc c s) k) 72)) ha (arI (up z.2.2 (plc c s) (if k = 2 then 0 else 0)) 72) = two w ka ha (arI (up z.2.1 (plc c s) k) 72) (arI (up z.2.2 (plc c s) 0) 72) := fun k => by
      rw [two_1 n2.symm, two_2, ite_self]
    by_cases q : 40 ≤ (29 * z.1 + 13) % 127
    · have h1 := x123 hF' hc hs4 (k := 0) (n := 0) (by decide) hn n1 n2
      rw [tw] at h1
      rw [if_pos q, if_pos q]
      simp only [bk157_48, bk157_49, kfc hF'.1, h1, bk157_53, nI_add, Option.bind_some, bct_v, bct_t, otl_s, otl_n, List.cons_append, List.nil_append, List.getElem?_cons_zero, List.getElem?_cons_succ, ↓reduceIte]
    · have h1 := x123 hF' hc hs4 (k := 1) (n := 0) (by decide) hn n1 n2
      rw [tw] at h1
      rw [if_neg q, if_neg q]
      simp only [bk157_44, bk157_49, kfc hF'.1, h1, bk157_53, nI_add, Option.bind_some, bct_v, bct_t, otl_s, otl_n, List.cons_append, List.nil_append, List.getElem?_cons_zero, List.getElem?_cons_succ, ↓reduceIte]
theorem x157 (hF : Flv w fl ka ha kd hr C B) {n : Nat} (hn : n < 127) (n1 : fl ≠ ka) (n2 : ha ≠ ka) (n3 : fl ≠ ha) : am_x 157 [.ref fl, .int (nI n)] w = some (.inl none, two w ka ha (arI (layN 36 (n, kd, hr)).2.1 72) (arI (layN 36 (n, kd, hr)).2.2 72)) := by
  rw [bx157, bk157_0]
  have go : ∀ c, c ≤ 36 → am_run 157 4 [some (.ref fl), none, some (.int (nI n)), some (.int (nI 0)), none] [] w = am_run 157 4 [some (.ref fl), none, some (.int (nI (layN c (n, kd, hr)).1)), some (.int (nI c)), none] [] (two w ka ha (arI (layN c (n, kd, hr)).2.1 72) (arI (layN c (n, kd, hr)).2.2 72)) := by
    intro c
    induction c with
    | zero =>
      intro _
      show _ = am_run 157 4 [some (.ref fl), none, some (.int (nI n)), some (.int (nI 0)), none] [] (two w ka ha (arI kd 72) (arI hr 72))
      rw [two_0 (show w.1 ka = some (arI kd 72) from hF.2.1) (show w.1 ha = some (arI hr 72) from hF.2.2)]
    | succ c ih =>
      intro hc
      rw [ih (by omega), bk157_4, if_neg (by rw [nI_leS (by omega) (by omega)]; omega), bk157_10]
      have hz := layN_lt (z := (n, kd, hr)) hn c
      rw [it157 hF (by omega) (Or.inl rfl) hz n1 n2 n3, it157 hF (by omega) (Or.inr rfl) (lay1_lt hz) n1 n2 n3, bk157_13, if_pos (by rw [nI_ltS (by decide) (by decide)]; decide), bk157_59, nI_add]
      rfl
  rw [go 36 (Nat.le_refl 36), bk157_4, if_pos (by rw [nI_leS (by decide) (by decide)]; decide), bk157_65]
/-- carpets and zones -/
theorem x8 (hO : cO w fl 5 [.ref ka, .ref ha, .long (lN C), .long (lN B)]) {c : Nat} (hc : c < 36) {p q : Nat → Bool} (hC : bm C p) (hB : bm B q) (u v : Bool) : ∃ C' B', am_x 8 [.ref fl, .int (nI c), .int (b2i u), .int (b2i v)] w = some (.inl none, am_pt w fl (.inr (5, [.ref ka, .ref ha, .long (lN C'), .long (lN B')]))) ∧ bm C' (up p c u) ∧ bm B' (up q c v) := by
  have hb := bm_bit hc
  have st : ∀ (X : Nat) (p : Nat → Bool) (u : Bool), bm X p → ∃ Y, bm Y (up p c u) ∧ (if b2i u = nI 0 then lN X &&& (lN (2 ^ c) ^^^ lN 18446744073709551615) else lN X ||| lN (2 ^ c)) = lN Y := by
    intro X p u hX
    cases u with
    | true =>
      refine ⟨X ||| 2 ^ c, bm_cg (bm_or hX hb) fun x _ => ?_, ?_⟩
      · by_cases e : x = c
        · rw [e, up_s, decide_eq_true rfl, Bool.or_true]
        · rw [up_n e, decide_eq_false e, Bool.or_false]
      · rw [if_neg (by decide)]
        exact wb_or (bm_lt hX) (bm_lt hb)
    | false =>
      obtain ⟨K, k1, k2⟩ := lN_anot hX hb
      refine ⟨K, bm_cg k2 fun x _ => ?_, ?_⟩
      · by_cases e : x = c
        · rw [e, up_s, decide_eq_true rfl, Bool.not_true, Bool.and_false]
        · rw [up_n e, decide_eq_false e, Bool.not_false, Bool.and_true]
      · rw [if_pos (show b2i false = nI 0 from rfl)]
        exact k1
  obtain ⟨C', c1, c2⟩ := st C p u hC
  obtain ⟨B', b1, b2⟩ := st B q v hB
  refine ⟨C', B', ?_, c1, b1⟩
  have hO2 : ∀ fs, cO (am_pt w fl (.inr (5, fs))) fl 5 fs := fun fs => pt_s
  have p1 : ∀ x, am_pf w fl 5 2 (.long x) = some (am_pt w fl (.inr (5, [.ref ka, .ref ha, .long x, .long (lN B)]))) := fun x => pfc hO (by show 2 < 4; decide) (by decide)
  have p2 : ∀ x y, am_pf (am_pt w fl (.inr (5, [.ref ka, .ref ha, .long x, .long (lN B)]))) fl 5 3 (.long y) = some (am_pt w fl (.inr (5, [.ref ka, .ref ha, .long x, .long y]))) := fun x y => by
    rw [pfc (hO2 _) (by show 3 < 4; decide) (by decide), pt_pt]
    rfl
  rw [bx8, bk8_0]
  cases u with
  | true =>
    rw [if_neg (by decide)] at c2 ⊢
    simp only [bk8_10, gfc hO, bk8_14, bit1 hc, c2, bk8_31, p1, bk8_34, Option.bind_some, bct_v, bct_t, otl_s, otl_n, List.cons_append, List.nil_append, List.getElem?_cons_zero, List.getElem?_cons_succ, ↓reduceIte]
    cases v with
    | true =>
      rw [if_neg (by decide)] at b2 ⊢
      simp only [bk8_39, gfc (hO2 _), bk8_43, b2, bk8_60, p2, bk8_63, Option.bind_some, bct_v, bct_t, otl_s, otl_n, List.cons_append, List.nil_append, List.getElem?_cons_zero, List.getElem?_cons_succ, ↓reduceIte]
    | false =>
      rw [if_pos (show b2i false = nI 0 from rfl)] at b2 ⊢
      simp only [bk8_49, gfc (hO2 _), bk8_53, b2, bk8_60, p2, bk8_63, Option.bind_some, bct_v, bct_t, otl_s, otl_n, List.cons_append, List.nil_append, List.getElem?_cons_zero, List.getElem?_cons_succ, ↓reduceIte]
  | false =>
    rw [if_pos (show b2i false = nI 0 from rfl)] at c2 ⊢
    simp only [bk8_20, gfc hO, bk8_24, bit1 hc, c2, bk8_31, p1, bk8_34, Option.bind_some, bct_v, bct_t, otl_s, otl_n, List.cons_append, List.nil_append, List.getElem?_cons_zero, List.getElem?_cons_succ, ↓reduceIte]
    cases v with
    | true =>
      rw [if_neg (by decide)] at b2 ⊢
      simp only [bk8_39, gfc (hO2 _), bk8_43, b2, bk8_60, p2, bk8_63, Option.bind_some, bct_v, bct_t, otl_s, otl_n, List.cons_append, List.nil_append, List.getElem?_cons_zero, List.getElem?_cons_succ, ↓reduceIte]
    | false =>
      rw [if_pos (show b2i false = nI 0 from rfl)] at b2 ⊢
      simp only [bk8_49, gfc (hO2 _), bk8_53, b2, bk8_60, p2, bk8_63, Option.bind_some, bct_v, bct_t, otl_s, otl_n, List.cons_append, List.nil_append, List.getElem?_cons_zero, List.getElem?_cons_succ, ↓reduceIte]
/-- how many edges a map has as they are, or another way -/
def sumN : Nat → (Nat → Nat) → Nat
  | 0, _ => 0
  | n + 1, f => sumN n f + f n
theorem sum_loop {α : Type} {n : Nat} {f : Nat → Nat} {Q : Nat → Nat → α} (h : ∀ k a, k < n → Q k a = Q (k + 1) (a + f k)) : Q 0 0 = Q n (sumN n f) := by
  have go : ∀ k, k ≤ n → Q 0 0 = Q k (sumN k f) := by
    intro k
    induction k with
    | zero => exact fun _ => rfl
    | succ k ih => exact fun hk => (ih (by omega)).trans (h k _ (by omega))
  exact go n (Nat.le_refl n)
def knwT (kd hr mp : Nat → Nat) (h : Nat) (b : Bool) (c s : Nat) : Nat := if nb c s ≠ none ∧ kno mp c s ≠ 0 ∧ ((clsS kd hr h c s == (kno mp c s == 2)) == b) = true then 1 else 0
def knwS (kd hr mp : Nat → Nat) (h : Nat) (b : Bool) : Nat := sumN 36 fun c => knwT kd hr mp h b c 1 + knwT kd hr mp h b c 2
theorem x26 (b : Bool) : am_x 26 [.int (b2i b)] w = some (.inl (some (.int (b2i b))), w) := by
  rw [bx26]
  cases b with
  | true => simp only [bk26_0, bk26_8, bk26_4, bk26_9, bx26, b2i_0, reduceCtorEq, Option.bind_some, bct_v, bct_t, otl_s, otl_n, List.cons_append, List.nil_append, List.getElem?_cons_zero, List.getElem?_cons_succ, ↓reduceIte]; rfl
  | false => simp only [bk26_0, bk26_8, bk26_4, bk26_9, bx26, b2i_0, Option.bind_some, bct_v, bct_t, otl_s, otl_n, List.cons_append, List.nil_append, List.getElem?_cons_zero, List.getElem?_cons_succ, ↓reduceIte]; rfl
theorem it159 (hF : Flv w fl ka ha kd hr C B) (hk : kdok kd) (ho : hrok hr) {m fa wa : Nat} {F W mp : Nat → Nat} (hm : Mv w m fa wa F W mp) (hp : ∀ k, mp k ≤ 2) (hh : h < 24) (b : Bool) {c s a : Nat} (hc : c < 36) (hs : s = 1 ∨ s = 2) : am_run 159 16 [some (.ref fl), some (.ref m), some (.int (b2i b)), some (.int (nI h)), some (.int (nI a)), some (.int (nI c)), some (.int (nI s)), none, none] [] w = am_run 159 16 [some (.ref fl), some (.ref m), some (.int (b2i b)), some (.int (nI h)), some (.int (nI (a + knwT kd hr mp h b c s))), some (.int (nI c)), some (.int (nI (s + 1))), none, none] [] w := by
  have hs4 : s < 4 := by omega
  have h1 := x81 hm hp hc hs4
  have h2 := x126 hF hk ho hc hs4 hh
  have k := kno_le hp c s
  rw [bk159_16, if_neg (by rw [nI_ltS (by omega) (by omega)]; omega)]
  simp only [bk159_22, kfc hm.1, h1, bk159_30, ahd hc hs4, bk159_39, Option.bind_some, bct_v, bct_t, otl_s, otl_n, List.cons_append, List.nil_append, List.getElem?_cons_zero, List.getElem?_cons_succ, ↓reduceIte]
  unfold knwT
  cases e : nb c s with
  | none =>
    rw [if_pos (show no none = (-1 : Int32) from rfl), if_neg (fun q => q.1 rfl), bk159_97, nI_add]
    rfl
  | some d =>
    have hd := nb_lt hc hs4 e
    have hne : ¬ no (some d) = (-1 : Int32) := by
      show ¬ nI d = -1
      rw [nI_m1S (by omega)]
      exact id
    rw [if_neg hne]
    rcases (show kno mp c s = 0 ∨ kno mp c s = 1 ∨ kno mp c s = 2 by omega) with z | z | z
    · rw [z, bk159_43, if_pos rfl, if_neg (fun q => q.2.1 rfl), bk159_97, nI_add]
      rfl
    · rw [z]
      cases y : clsS kd hr h c s <;> cases b <;> rw [y] at h2 <;>
        simp only [bk159_0, bk159_109, bk159_13, bk159_103, bk159_22, bk159_30, bk159_39, bk159_97, bk159_43, bk159_48, bk159_57, bk159_67, bk159_63, bk159_68, bk159_75, bk159_71, bk159_76, bk159_90, bk159_86, bk159_91, bk159_94, bx159, kfc hF.1, h2, b2i_t, b2i_f, nI_eqS (show 1 < 2147483648 by decide) (show 0 < 2147483648 by decide), nI_eqS (show 0 < 2147483648 by decide) (show 1 < 2147483648 by decide), nI_eqS (show 1 < 2147483648 by decide) (show 2 < 2147483648 by decide), show am_x 26 [.int (nI 1)] w = _ from x26 true, show am_x 26 [.int (nI 0)] w = _ from x26 false, nI_add, Option.bind_some, bct_v, bct_t, otl_s, otl_n, List.cons_append, List.nil_append, List.getElem?_cons_zero, List.getElem?_cons_succ, ↓reduceIte, nI_add, nI_leS, nI_ltS, nI_eqS, nI_m1S, Nat.reduceAdd, Nat.reduceLT, Nat.reduceLeDiff, Nat.reduceMul, Nat.reduceEqDiff, not_true_eq_false, not_false_eq_true] <;> rfl
    · rw [z]
      cases y : clsS kd hr h c s <;> cases b <;> rw [y] at h2 <;>
        simp only [bk159_0, bk159_109, bk159_13, bk159_103, bk159_22, bk159_30, bk159_39, bk159_97, bk159_43, bk159_48, bk159_57, bk159_67, bk159_63, bk159_68, bk159_75, bk159_71, bk159_76, bk159_90, bk159_86, bk159_91, bk159_94, bx159, kfc hF.1, h2, b2i_t, b2i_f, nI_eqS (show 1 < 2147483648 by decide) (show 0 < 2147483648 by decide), nI_eqS (show 0 < 2147483648 by decide) (show 1 < 2147483648 by decide), nI_eqS (show 2 < 2147483648 by decide) (show 0 < 2147483648 by decide), show am_x 26 [.int (nI 1)] w = _ from x26 true, show am_x 26 [.int (nI 0)] w = _ from x26 false, nI_add, Option.bind_some, bct_v, bct_t, otl_s, otl_n, List.cons_append, List.nil_append, List.getElem?_cons_zero, List.getElem?_cons_succ, ↓reduceIte, nI_add, nI_leS, nI_ltS, nI_eqS, nI_m1S, Nat.reduceAdd, Nat.reduceLT, Nat.reduceLeDiff, Nat.reduceMul, Nat.reduceEqDiff, not_true_eq_false, not_false_eq_true] <;> rfl
theorem x159 (hF : Flv w fl ka ha kd hr C B) (hk : kdok kd) (ho : hrok hr) {m fa wa : Nat} {F W mp : Nat → Nat} (hm : Mv w m fa wa F W mp) (hp : ∀ k, mp k ≤ 2) (hh : h < 24) (b : Bool) : am_x 159 [.ref fl, .ref m, .int (b2i b), .int (nI h)] w = some (.inl (some (.int (nI (knwS kd hr mp h b)))), w) := by
  rw [bx159, bk159_0]
  have e := sum_loop (n := 36) (f := fun c => knwT kd hr mp h b c 1 + knwT kd hr mp h b c 2) (Q := fun c a => am_run 159 6 [some (.ref fl), some (.ref m), some (.int (b2i b)), some (.int (nI h)), some (.int (nI a)), some (.int (nI c)), none, none, none] [] w) (fun c a hc => by
    try dsimp only
    rw [bk159_6, if_neg (by rw [nI_leS (by omega) (by omega)]; omega), bk159_13, it159 hF hk ho hm hp hh b hc (Or.inl rfl), it159 hF hk ho hm hp hh b hc (Or.inr rfl), bk159_16, if_pos (by rw [nI_ltS (by decide) (by decide)]; decide), bk159_103, nI_add, Nat.add_assoc])
  refine Eq.trans e ?_
  try dsimp only
  rw [bk159_6, if_pos (by rw [nI_leS (by decide) (by decide)]; decide), bk159_109]
  rfl
end FLO
