/-! THE CLASS: its state, its parts of calls. Mine. -/
def oX (fl wr n mi nd : Nat) (dr me di re : Int32) : List Value := [.ref fl, .ref wr, .int (nI n), .int (nI mi), .int (nI nd), .int dr, .int me, .int di, .int re]
theorem oX_0 {fl wr n mi nd : Nat} {dr me di re : Int32} : (oX fl wr n mi nd dr me di re)[0]? = some (.ref fl) := rfl
theorem oX_1 {fl wr n mi nd : Nat} {dr me di re : Int32} : (oX fl wr n mi nd dr me di re)[1]? = some (.ref wr) := rfl
theorem oX_2 {fl wr n mi nd : Nat} {dr me di re : Int32} : (oX fl wr n mi nd dr me di re)[2]? = some (.int (nI n)) := rfl
theorem oX_3 {fl wr n mi nd : Nat} {dr me di re : Int32} : (oX fl wr n mi nd dr me di re)[3]? = some (.int (nI mi)) := rfl
theorem oX_4 {fl wr n mi nd : Nat} {dr me di re : Int32} : (oX fl wr n mi nd dr me di re)[4]? = some (.int (nI nd)) := rfl
theorem oX_5 {fl wr n mi nd : Nat} {dr me di re : Int32} : (oX fl wr n mi nd dr me di re)[5]? = some (.int dr) := rfl
theorem oX_6 {fl wr n mi nd : Nat} {dr me di re : Int32} : (oX fl wr n mi nd dr me di re)[6]? = some (.int me) := rfl
theorem oX_7 {fl wr n mi nd : Nat} {dr me di re : Int32} : (oX fl wr n mi nd dr me di re)[7]? = some (.int di) := rfl
theorem oX_8 {fl wr n mi nd : Nat} {dr me di re : Int32} : (oX fl wr n mi nd dr me di re)[8]? = some (.int re) := rfl
def wks (n : Nat) (wad : Nat → Nat) : Nat → Option Nat := fun i => if i < n then some (wad i) else none
/-- the class's cells: x the object, fl the floor, ka, ha its rows, wr the row of walkers, wad their places -/
def RCx (w : am_Wd) (g : Nat → Nat) (x fl ka ha wr C B : Nat) (wad : Nat → Nat) (kd hr : Nat → Nat) (cp br : Nat → Bool) (n : Nat) (ws : Nat → sW) (mi nd : Nat) (dr me di re : Int32) : Prop :=
  cO w x 8 (oX fl wr n mi nd dr me di re) ∧ Flv w fl ka ha kd hr C B ∧ bm C cp ∧ bm B br ∧ cQ w wr 4 3 (wks n wad) ∧ (∀ i, i < n → Wkv w g i (wad i) (ws i)) ∧ g x = 1 ∧ g fl = 2 ∧ g ka = 3 ∧ g ha = 4 ∧ g wr = 5
section CLS
variable {w w' : am_Wd} {g : Nat → Nat} {x fl ka ha wr C B : Nat} {wad : Nat → Nat} {kd hr : Nat → Nat} {cp br : Nat → Bool} {n : Nat} {ws : Nat → sW} {mi nd : Nat} {dr me di re : Int32}
theorem rc_fr (R : RCx w g x fl ka ha wr C B wad kd hr cp br n ws mi nd dr me di re) (hn : n ≤ 3) (h : ∀ b, 1 ≤ g b → g b < 40 → w'.1 b = w.1 b) : RCx w' g x fl ka ha wr C B wad kd hr cp br n ws mi nd dr me di re := by
  obtain ⟨h1, h2, h3, h4, h5, h6, g1, g2, g3, g4, g5⟩ := R
  exact ⟨cO_of h1 (h x (by omega) (by omega)), h2.of (h fl (by omega) (by omega)) (h ka (by omega) (by omega)) (h ha (by omega) (by omega)), h3, h4, cQ_of h5 (h wr (by omega) (by omega)), fun i hi => (h6 i hi).of fun b k1 k2 => h b (by omega) (by omega), g1, g2, g3, g4, g5⟩
theorem rc_jk (R : RCx w g x fl ka ha wr C B wad kd hr cp br n ws mi nd dr me di re) (hn : n ≤ 3) (k m : Nat) : RCx (am_jk w k m) g x fl ka ha wr C B wad kd hr cp br n ws mi nd dr me di re := rc_fr R hn fun _ _ _ => rfl
/-- a walker changed -/
theorem rc_wk (R : RCx w g x fl ka ha wr C B wad kd hr cp br n ws mi nd dr me di re) {i : Nat} {y : sW} (h : Wkv w' g i (wad i) y) (f : frm g (10 + 10 * i) (20 + 10 * i) w w') : RCx w' g x fl ka ha wr C B wad kd hr cp br n (up ws i y) mi nd dr me di re := by
  obtain ⟨h1, h2, h3, h4, h5, h6, g1, g2, g3, g4, g5⟩ := R
  refine ⟨cO_of h1 (f.1 x (by omega)), h2.of (f.1 fl (by omega)) (f.1 ka (by omega)) (f.1 ha (by omega)), h3, h4, cQ_of h5 (f.1 wr (by omega)), fun j hj => ?_, g1, g2, g3, g4, g5⟩
  by_cases e : j = i
  · subst e; rw [up_s]; exact h
  · rw [up_n e]
    exact (h6 j hj).of fun b k1 k2 => f.1 b (by omega)
/-- the object's own fields changed -/
theorem rc_x {mi' nd' : Nat} {dr' me' di' re' : Int32} (R : RCx w g x fl ka ha wr C B wad kd hr cp br n ws mi nd dr me di re) : RCx (am_pt w x (.inr (8, oX fl wr n mi' nd' dr' me' di' re'))) g x fl ka ha wr C B wad kd hr cp br n ws mi' nd' dr' me' di' re' ∧ frm g 1 2 w (am_pt w x (.inr (8, oX fl wr n mi' nd' dr' me' di' re'))) := by
  obtain ⟨h1, h2, h3, h4, h5, h6, g1, g2, g3, g4, g5⟩ := R
  have f : frm g 1 2 w (am_pt w x (.inr (8, oX fl wr n mi' nd' dr' me' di' re'))) := frm_pt (by omega) (by omega)
  exact ⟨⟨pt_s, h2.of (f.1 fl (by omega)) (f.1 ka (by omega)) (f.1 ha (by omega)), h3, h4, cQ_of h5 (f.1 wr (by omega)), fun i hi => (h6 i hi).of fun b k1 k2 => f.1 b (by omega), g1, g2, g3, g4, g5⟩, f⟩
/-! arguments -/
def ixr (a b : Nat) (z : Int32) : Option Nat := if z < nI a ∨ nI b < z then none else some z.toNatClampNeg
theorem ixr_c {a b : Nat} (hb : b < 2147483648) (ha : a < 2147483648) (z : Int32) : (ixr a b z = none ∧ (z < nI a ∨ nI b < z)) ∨ ∃ j, a ≤ j ∧ j ≤ b ∧ z = nI j ∧ ixr a b z = some j := by
  unfold ixr
  by_cases h : z < nI a ∨ nI b < z
  · rw [if_pos h]; exact Or.inl ⟨rfl, h⟩
  · right
    have h1 : ¬ z < nI a := fun q => h (Or.inl q)
    have h2 : ¬ nI b < z := fun q => h (Or.inr q)
    have e1 : (nI a).toInt = (a : Int) := nI_toInt (by omega)
    have e2 : (nI b).toInt = (b : Int) := nI_toInt (by omega)
    rw [Int32.lt_iff_toInt_lt] at h1 h2
    have e3 : z = nI z.toInt.toNat := by
      apply Int32.toInt_inj.mp
      rw [nI_toInt (by omega)]
      omega
    refine ⟨z.toInt.toNat, by omega, by omega, e3, ?_⟩
    rw [if_neg h]
    rfl
theorem ixr_s {a b j : Nat} (hb : b < 2147483648) (h1 : a ≤ j) (h2 : j ≤ b) : ixr a b (nI j) = some j := by
  unfold ixr
  rw [if_neg, nI_clamp (by omega)]
  rintro (q | q)
  · exact nI_nlt h1 (by omega) q
  · exact nI_nlt h2 (by omega) q
theorem ge_gt {b : Nat} (hb : b + 1 < 2147483648) {z : Int32} (h : nI b < z) : nI (b + 1) ≤ z := by
  rw [Int32.lt_iff_toInt_lt, nI_toInt (show b < 2 ^ 31 by omega)] at h
  rw [Int32.le_iff_toInt_le, nI_toInt (show b + 1 < 2 ^ 31 by omega)]
  omega
theorem nlt_ge {a z : Int32} (h : a ≤ z) : ¬ z < a := by
  rw [Int32.lt_iff_toInt_lt]
  rw [Int32.le_iff_toInt_le] at h
  omega
theorem x28t : am_x 28 [.int (nI 1)] w = some (.inl none, w) := by
  simp only [bk28_0, bk28_15, bk28_4, bx28, nI_eqS (show 1 < 2147483648 by decide) (show 0 < 2147483648 by decide), Option.bind_some, bct_v, bct_t, otl_s, otl_n, List.cons_append, List.nil_append, List.getElem?_cons_zero, List.getElem?_cons_succ, ↓reduceIte, nI_add, nI_leS, nI_ltS, nI_eqS, nI_m1S, Nat.reduceAdd, Nat.reduceLT, Nat.reduceLeDiff, Nat.reduceMul, Nat.reduceEqDiff, not_true_eq_false, not_false_eq_true]
theorem x28f : am_x 28 [.int (nI 0)] w = some (.inr (am_xn 1), am_jk w 1 6) := by
  simp only [bk28_0, bk28_15, bk28_4, bx28, Option.bind_some, bct_v, bct_t, otl_s, otl_n, List.cons_append, List.nil_append, List.getElem?_cons_zero, List.getElem?_cons_succ, ↓reduceIte, nI_add, nI_leS, nI_ltS, nI_eqS, nI_m1S, Nat.reduceAdd, Nat.reduceLT, Nat.reduceLeDiff, Nat.reduceMul, Nat.reduceEqDiff, not_true_eq_false, not_false_eq_true]
theorem x29 {c : Nat} (hc : c ≤ 35) : am_x 29 [.int (nI c)] w = some (.inl none, w) := by
  simp only [bk29_0, bk29_10, bk29_4, bk29_21, bx29, nI_ltS (show c < 2147483648 by omega) (show 0 < 2147483648 by decide), nI_ltS (show c < 2147483648 by omega) (show 36 < 2147483648 by decide), Nat.not_lt_zero, show c < 36 from by omega, ↓reduceIte]
theorem x29n {z : Int32} (h : z < nI 0 ∨ nI 35 < z) : am_x 29 [.int z] w = some (.inr (am_xn 0), am_jk w 1 6) := by
  by_cases q : z < nI 0
  · simp only [bk29_0, bk29_10, bk29_4, bk29_21, bx29, q, ↓reduceIte]
  · have h2 : ¬ z < nI 36 := nlt_ge (ge_gt (by decide) (h.resolve_left q))
    simp only [bk29_0, bk29_10, bk29_4, bk29_21, bx29, q, h2, ↓reduceIte]
theorem x30 {c : Nat} (hc : c ≤ 3) : am_x 30 [.int (nI c)] w = some (.inl none, w) := by
  simp only [bk30_0, bk30_9, bk30_4, bk30_20, bx30, nI_ltS (show c < 2147483648 by omega) (show 0 < 2147483648 by decide), nI_ltS (show c < 2147483648 by omega) (show 4 < 2147483648 by decide), Nat.not_lt_zero, show c < 4 from by omega, ↓reduceIte]
theorem x30n {z : Int32} (h : z < nI 0 ∨ nI 3 < z) : am_x 30 [.int z] w = some (.inr (am_xn 0), am_jk w 1 6) := by
  by_cases q : z < nI 0
  · simp only [bk30_0, bk30_9, bk30_4, bk30_20, bx30, q, ↓reduceIte]
  · have h2 : ¬ z < nI 4 := nlt_ge (ge_gt (by decide) (h.resolve_left q))
    simp only [bk30_0, bk30_9, bk30_4, bk30_20, bx30, q, h2, ↓reduceIte]
theorem x92 {a b j : Nat} (hb : b < 2147483648) (h1 : a ≤ j) (h2 : j ≤ b) : am_x 92 [.int (nI j), .int (nI a), .int (nI b)] w = some (.inl none, w) := by
  simp only [bk92_0, bk92_14, bk92_5, bk92_15, bk92_10, bk92_18, bx92, nI_ltS (show j < 2147483648 by omega) (show a < 2147483648 by omega), nI_ltS (show b < 2147483648 by omega) (show j < 2147483648 by omega), show ¬ j < a from by omega, show ¬ b < j from by omega, x28t, Option.bind_some, bct_v, bct_t, otl_s, otl_n, List.cons_append, List.nil_append, List.getElem?_cons_zero, List.getElem?_cons_succ, ↓reduceIte]
theorem x92n {a b : Nat} {z : Int32} (h : z < nI a ∨ nI b < z) : am_x 92 [.int z, .int (nI a), .int (nI b)] w = some (.inr (am_xn 1), am_jk w 1 6) := by
  by_cases q : z < nI a
  · simp only [bk92_0, bk92_14, bk92_5, bk92_15, bk92_10, bk92_18, bx92, q, x28f, Option.bind_some, bct_v, bct_t, otl_s, otl_n, List.cons_append, List.nil_append, List.getElem?_cons_zero, List.getElem?_cons_succ, ↓reduceIte]
  · simp only [bk92_0, bk92_14, bk92_5, bk92_15, bk92_10, bk92_18, bx92, q, h.resolve_left q, x28f, Option.bind_some, bct_v, bct_t, otl_s, otl_n, List.cons_append, List.nil_append, List.getElem?_cons_zero, List.getElem?_cons_succ, ↓reduceIte]
/-! parts of calls -/
theorem x31 (R : RCx w g x fl ka ha wr C B wad kd hr cp br n ws mi nd dr me di re) (hn : n ≤ 3) {i : Nat} (hi : i < n) : am_x 31 [.ref x, .int (nI i)] w = some (.inl (some (.ref (wad i))), w) := by
  obtain ⟨h1, h2, h3, h4, h5, -⟩ := R
  have r0 := rqc h5 (i := i) (Or.inl rfl) (by omega) (by decide)
  rw [show wks n wad i = some (wad i) from if_pos hi] at r0
  have r0' : am_rq w wr (nI i) = some (.ref (wad i)) := r0
  simp only [bk31_0, bk31_22, bk31_4, bk31_9, bk31_10, bk31_13, bk31_17, bk31_19, bk31_19a, bk31_37, bk31_39, bx31, nI_ltS (show i < 2147483648 by omega) (show 0 < 2147483648 by decide), Nat.not_lt_zero, gfc h1, oX_0, oX_1, oX_2, oX_3, oX_4, oX_5, oX_6, oX_7, oX_8, lenQ h5 (by decide), nI_leS (show 3 < 2147483648 by decide) (show i < 2147483648 by omega), show ¬ 3 ≤ i from by omega, r0', Option.bind_some, bct_v, bct_t, otl_s, otl_n, List.cons_append, List.nil_append, List.getElem?_cons_zero, List.getElem?_cons_succ, ↓reduceIte]
theorem x31n (R : RCx w g x fl ka ha wr C B wad kd hr cp br n ws mi nd dr me di re) (hn : n ≤ 3) {z : Int32} (h : z < nI 0 ∨ nI n ≤ z) : am_x 31 [.ref x, .int z] w = some (.inr (am_xn 0), am_jk w 1 6) := by
  obtain ⟨h1, h2, h3, h4, h5, -⟩ := R
  by_cases q : z < nI 0
  · simp only [bk31_0, bk31_22, bk31_4, bk31_9, bk31_10, bk31_13, bk31_17, bk31_19, bk31_19a, bk31_37, bk31_39, bx31, q, ↓reduceIte]
  · by_cases q3 : nI 3 ≤ z
    · simp only [bk31_0, bk31_22, bk31_4, bk31_9, bk31_10, bk31_13, bk31_17, bk31_19, bk31_19a, bk31_37, bk31_39, bx31, q, gfc h1, oX_0, oX_1, oX_2, oX_3, oX_4, oX_5, oX_6, oX_7, oX_8, lenQ h5 (by decide), q3, Option.bind_some, bct_v, bct_t, otl_s, otl_n, List.cons_append, List.nil_append, List.getElem?_cons_zero, List.getElem?_cons_succ, ↓reduceIte]
    · rcases pk_ix z (n := 3) (by decide) with k | k | ⟨j, hj, rfl⟩
      · exact absurd k q
      · exact absurd k q3
      · have hnj : n ≤ j := (nI_leI (by omega) (by omega)).mp (h.resolve_left q)
        have r0 := rqc h5 (i := j) (Or.inl rfl) (by omega) (by decide)
        rw [show wks n wad j = none from if_neg (by omega)] at r0
        have r0' : am_rq w wr (nI j) = some .null := r0
        simp only [bk31_0, bk31_22, bk31_4, bk31_9, bk31_10, bk31_13, bk31_17, bk31_19, bk31_19a, bk31_37, bk31_39, bx31, q, gfc h1, oX_0, oX_1, oX_2, oX_3, oX_4, oX_5, oX_6, oX_7, oX_8, lenQ h5 (by decide), q3, r0', Option.bind_some, bct_v, bct_t, otl_s, otl_n, List.cons_append, List.nil_append, List.getElem?_cons_zero, List.getElem?_cons_succ, ↓reduceIte]
theorem x33 (R : RCx w g x fl ka ha wr C B wad kd hr cp br n ws mi nd dr me di re) (hm : mi ≤ 3000) : am_x 33 [.ref x] w = some (.inl (some (.int (nI (mi / 60 % 24)))), w) := by
  simp only [bk33_0, bk33_4, bx33, gfc R.1, oX_0, oX_1, oX_2, oX_3, oX_4, oX_5, oX_6, oX_7, oX_8, nI_divS (show mi < 2147483648 by omega) (show 0 < 60 by decide) (show 60 < 2147483648 by decide), nI_remS (show mi / 60 < 2147483648 by omega) (show 0 < 24 by decide) (show 24 < 2147483648 by decide), Option.bind_some, bct_v, bct_t, otl_s, otl_n, List.cons_append, List.nil_append, List.getElem?_cons_zero, List.getElem?_cons_succ, ↓reduceIte]
/-- an act refused -/
def refW (mi : Nat) (y : sW) (f : Bool) : Bool := match y with
  | (ho, _, ch, _, _, _, _, may, mp) => decide (ch = 0) || (!f && !(safeB ch (costI (wayW may mp ho)))) || decide (3000 ≤ mi)
theorem x225 (R : RCx w g x fl ka ha wr C B wad kd hr cp br n ws mi nd dr me di re) (hm : mi ≤ 3000) {i a ho po ch : Nat} {lo ac bu sl : Int32} {may : Nat → Bool} {mp : Nat → Nat} (h : Wkv w g i a (ho, po, ch, lo, ac, bu, sl, may, mp)) (hc : ch ≤ 500) (hh : ho < 36) (f : Bool) :
    am_x 225 [.ref x, .ref a, .int (b2i f)] w = if refW mi (ho, po, ch, lo, ac, bu, sl, may, mp) f = true then some (.inr (am_xn 2), am_jk w 1 6) else some (.inl none, w) := by
  have z := x199 h hh
  obtain ⟨m, be, fa, wa, ca, F, W, N, h1, -⟩ := h
  unfold refW
  dsimp only
  have e1 : (nI 0 < nI ch) = (0 < ch) := nI_ltS (by decide) (by omega)
  have e2 : (nI mi < nI 3000) = (mi < 3000) := nI_ltS (by omega) (by decide)
  by_cases c0 : ch = 0
  · rw [if_pos (by rw [decide_eq_true c0]; simp)]
    simp only [bk225_0, bk225_4, bk225_18, bk225_7, bk225_40, bk225_22, bk225_44, bk225_26, bk225_61, bk225_50, bk225_29, bx225, gfc h1, oW_0, oW_1, oW_2, oW_3, oW_4, oW_5, oW_6, oW_7, oW_8, e1, show ¬ 0 < ch from by omega, Option.bind_some, bct_v, bct_t, otl_s, otl_n, List.cons_append, List.nil_append, List.getElem?_cons_zero, List.getElem?_cons_succ, ↓reduceIte]
  · by_cases m0 : 3000 ≤ mi
    · rw [if_pos (by rw [decide_eq_true m0]; simp)]
      cases f with
      | true => simp only [bk225_0, bk225_4, bk225_18, bk225_7, bk225_40, bk225_22, bk225_44, bk225_26, bk225_61, bk225_50, bk225_29, bx225, gfc h1, oW_0, oW_1, oW_2, oW_3, oW_4, oW_5, oW_6, oW_7, oW_8, e1, show 0 < ch from by omega, b2i_0, reduceCtorEq, not_false_eq_true, gfc R.1, oX_0, oX_1, oX_2, oX_3, oX_4, oX_5, oX_6, oX_7, oX_8, e2, show ¬ mi < 3000 from by omega, Option.bind_some, bct_v, bct_t, otl_s, otl_n, List.cons_append, List.nil_append, List.getElem?_cons_zero, List.getElem?_cons_succ, ↓reduceIte]
      | false =>
        cases q : safeB ch (costI (wayW may mp ho)) with
        | true => rw [q] at z; simp only [bk225_0, bk225_4, bk225_18, bk225_7, bk225_40, bk225_22, bk225_44, bk225_26, bk225_61, bk225_50, bk225_29, bx225, gfc h1, oW_0, oW_1, oW_2, oW_3, oW_4, oW_5, oW_6, oW_7, oW_8, e1, show 0 < ch from by omega, b2i_0, reduceCtorEq, not_false_eq_true, not_true_eq_false, kfc h1, z, gfc R.1, oX_0, oX_1, oX_2, oX_3, oX_4, oX_5, oX_6, oX_7, oX_8, e2, show ¬ mi < 3000 from by omega, Option.bind_some, bct_v, bct_t, otl_s, otl_n, List.cons_append, List.nil_append, List.getElem?_cons_zero, List.getElem?_cons_succ, ↓reduceIte]
        | false => rw [q] at z; simp only [bk225_0, bk225_4, bk225_18, bk225_7, bk225_40, bk225_22, bk225_44, bk225_26, bk225_61, bk225_50, bk225_29, bx225, gfc h1, oW_0, oW_1, oW_2, oW_3, oW_4, oW_5, oW_6, oW_7, oW_8, e1, show 0 < ch from by omega, b2i_0, not_true_eq_false, kfc h1, z, Option.bind_some, bct_v, bct_t, otl_s, otl_n, List.cons_append, List.nil_append, List.getElem?_cons_zero, List.getElem?_cons_succ, ↓reduceIte]
    · simp only [decide_eq_false c0, decide_eq_false m0]
      cases f with
      | true =>
        rw [if_neg (by simp)]
        simp only [bk225_0, bk225_4, bk225_18, bk225_7, bk225_40, bk225_22, bk225_44, bk225_26, bk225_61, bk225_50, bk225_29, bx225, gfc h1, oW_0, oW_1, oW_2, oW_3, oW_4, oW_5, oW_6, oW_7, oW_8, e1, show 0 < ch from by omega, b2i_0, reduceCtorEq, not_false_eq_true, gfc R.1, oX_0, oX_1, oX_2, oX_3, oX_4, oX_5, oX_6, oX_7, oX_8, e2, show mi < 3000 from by omega, Option.bind_some, bct_v, bct_t, otl_s, otl_n, List.cons_append, List.nil_append, List.getElem?_cons_zero, List.getElem?_cons_succ, ↓reduceIte]
      | false =>
        cases q : safeB ch (costI (wayW may mp ho)) with
        | true =>
          rw [q] at z
          rw [if_neg (by simp)]
          simp only [bk225_0, bk225_4, bk225_18, bk225_7, bk225_40, bk225_22, bk225_44, bk225_26, bk225_61, bk225_50, bk225_29, bx225, gfc h1, oW_0, oW_1, oW_2, oW_3, oW_4, oW_5, oW_6, oW_7, oW_8, e1, show 0 < ch from by omega, b2i_0, reduceCtorEq, not_false_eq_true, not_true_eq_false, kfc h1, z, gfc R.1, oX_0, oX_1, oX_2, oX_3, oX_4, oX_5, oX_6, oX_7, oX_8, e2, show mi < 3000 from by omega, Option.bind_some, bct_v, bct_t, otl_s, otl_n, List.cons_append, List.nil_append, List.getElem?_cons_zero, List.getElem?_cons_succ, ↓reduceIte]
        | false =>
          rw [q] at z
          rw [if_pos (by simp)]
          simp only [bk225_0, bk225_4, bk225_18, bk225_7, bk225_40, bk225_22, bk225_44, bk225_26, bk225_61, bk225_50, bk225_29, bx225, gfc h1, oW_0, oW_1, oW_2, oW_3, oW_4, oW_5, oW_6, oW_7, oW_8, e1, show 0 < ch from by omega, b2i_0, not_true_eq_false, kfc h1, z, Option.bind_some, bct_v, bct_t, otl_s, otl_n, List.cons_append, List.nil_append, List.getElem?_cons_zero, List.getElem?_cons_succ, ↓reduceIte]
/-- an act done -/
theorem x32 (R : RCx w g x fl ka ha wr C B wad kd hr cp br n ws mi nd dr me di re) {i ho po ch : Nat} {lo ac bu sl : Int32} {may : Nat → Bool} {mp : Nat → Nat} (h : Wkv w g i (wad i) (ho, po, ch, lo, ac, bu, sl, may, mp)) (hc : 1 ≤ ch) :
    ∃ w', am_x 32 [.ref x, .ref (wad i)] w = some (.inl none, w') ∧ RCx w' g x fl ka ha wr C B wad kd hr cp br n (up ws i (ho, po, ch - 1, lo, ac + nI 1, bu, sl, may, mp)) (mi + 1) nd dr me di re ∧ (∀ b, 40 ≤ g b ∨ g b < 1 → i < 3 → w'.1 b = w.1 b) ∧ w'.2 = w.2 := by
  obtain ⟨m, be, fa, wa, ca, F, W, N, h1, h2, h3, h4, g1, g2, g3, g4, g5, g6⟩ := h
  have p1 : am_pf w (wad i) 6 6 (.int (ac + nI 1)) = some (am_pt w (wad i) (.inr (6, oW ho po ch m be lo (ac + nI 1) bu sl))) := pfc h1 (by show 6 < 9; decide) (by decide)
  have q1 : cO (am_pt w (wad i) (.inr (6, oW ho po ch m be lo (ac + nI 1) bu sl))) (wad i) 6 (oW ho po ch m be lo (ac + nI 1) bu sl) := pt_s
  have p2 : am_pf (am_pt w (wad i) (.inr (6, oW ho po ch m be lo (ac + nI 1) bu sl))) (wad i) 6 4 (.int (nI (ch - 1))) = some (am_pt w (wad i) (.inr (6, oW ho po (ch - 1) m be lo (ac + nI 1) bu sl))) := by
    rw [pfc q1 (by show 4 < 9; decide) (by decide), pt_pt]
    rfl
  obtain ⟨k1, k2⟩ := Wkv_fld (w := w) (ho' := ho) (po' := po) (ch' := ch - 1) (lo' := lo) (ac' := ac + nI 1) (bu' := bu) (sl' := sl) h2 h3 h4 g1 g2 g3 g4 g5 g6
  have R1 := rc_wk R k1 k2
  have p3 : am_pf (am_pt w (wad i) (.inr (6, oW ho po (ch - 1) m be lo (ac + nI 1) bu sl))) x 8 3 (.int (nI (mi + 1))) = some (am_pt (am_pt w (wad i) (.inr (6, oW ho po (ch - 1) m be lo (ac + nI 1) bu sl))) x (.inr (8, oX fl wr n (mi + 1) nd dr me di re))) := pfc R1.1 (by show 3 < 9; decide) (by decide)
  obtain ⟨r1, r2⟩ := rc_x (mi' := mi + 1) (nd' := nd) (dr' := dr) (me' := me) (di' := di) (re' := re) R1
  refine ⟨_, ?_, r1, fun b hb hi => (r2.1 b (by omega)).trans (k2.1 b (by omega)), r2.2.trans k2.2⟩
  simp only [bk32_0, bk32_5, bk32_10, bk32_15, bk32_20, bk32_25, bk32_30, bx32, gfc h1, gfc q1, oW_0, oW_1, oW_2, oW_3, oW_4, oW_5, oW_6, oW_7, oW_8, p1, nI_subS hc, p2, gfc R1.1, oX_0, oX_1, oX_2, oX_3, oX_4, oX_5, oX_6, oX_7, oX_8, nI_add, p3, Option.bind_some, bct_v, bct_t, otl_s, otl_n, List.cons_append, List.nil_append, List.getElem?_cons_zero, List.getElem?_cons_succ, ↓reduceIte]
/-- a number drawn -/
theorem x93 (R : RCx w g x fl ka ha wr C B wad kd hr cp br n ws mi nd dr me di re) (hd : nd < 127) :
    ∃ w', am_x 93 [.ref x] w = some (.inl (some (.int (nI nd))), w') ∧ RCx w' g x fl ka ha wr C B wad kd hr cp br n ws mi ((29 * nd + 13) % 127) (dr + nI 1) me di re ∧ frm g 1 2 w w' := by
  have p1 : am_pf w x 8 4 (.int (nI ((29 * nd + 13) % 127))) = some (am_pt w x (.inr (8, oX fl wr n mi ((29 * nd + 13) % 127) dr me di re))) := pfc R.1 (by show 4 < 9; decide) (by decide)
  have q1 : cO (am_pt w x (.inr (8, oX fl wr n mi ((29 * nd + 13) % 127) dr me di re))) x 8 (oX fl wr n mi ((29 * nd + 13) % 127) dr me di re) := pt_s
  have p2 : am_pf (am_pt w x (.inr (8, oX fl wr n mi ((29 * nd + 13) % 127) dr me di re))) x 8 5 (.int (dr + nI 1)) = some (am_pt w x (.inr (8, oX fl wr n mi ((29 * nd + 13) % 127) (dr + nI 1) me di re))) := by
    rw [pfc q1 (by show 5 < 9; decide) (by decide), pt_pt]
    rfl
  obtain ⟨r1, r2⟩ := rc_x (mi' := mi) (nd' := (29 * nd + 13) % 127) (dr' := dr + nI 1) (me' := me) (di' := di) (re' := re) R
  refine ⟨_, ?_, r1, r2⟩
  simp only [bk93_0, bk93_4, bk93_10, bk93_13, bk93_18, bk93_23, bx93, gfc R.1, gfc q1, oX_0, oX_1, oX_2, oX_3, oX_4, oX_5, oX_6, oX_7, oX_8, x27 hd, p1, p2, Option.bind_some, bct_v, bct_t, otl_s, otl_n, List.cons_append, List.nil_append, List.getElem?_cons_zero, List.getElem?_cons_succ, ↓reduceIte]
end CLS
