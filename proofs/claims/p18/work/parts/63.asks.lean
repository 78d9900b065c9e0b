/-! WHAT IS ASKED OF THE CLASS. Mine. -/
def figS (y : sW) (what : Nat) : Int32 := match y with
  | (ho, po, ch, lo, ac, bu, sl, may, mp) => match what with
    | 0 => nI po
    | 1 => nI ho
    | 2 => nI ch
    | 3 => nI (cnt 144 may)
    | 4 => b2i (decide (cnt 144 may = 1))
    | 5 => nI (cnt 36 (fun c => kno mp c 1 == 1) + cnt 36 (fun c => kno mp c 2 == 1))
    | 6 => nI (cnt 36 (fun c => kno mp c 1 == 2) + cnt 36 (fun c => kno mp c 2 == 2)) - nI 12
    | 9 => lo
    | 10 => ac
    | 11 => bu
    | _ => sl
def ofwS (kd hr : Nat → Nat) (mi : Nat) (y : sW) (what : Nat) : Int32 := if what = 7 then nI (knwS kd hr y.2.2.2.2.2.2.2.2 (mi / 60 % 24) true) else if what = 8 then nI (knwS kd hr y.2.2.2.2.2.2.2.2 (mi / 60 % 24) false) else figS y what
def hsS (kd hr : Nat → Nat) (cp br : Nat → Bool) (n mi : Nat) (dr me di re : Int32) (what : Nat) : Int32 := match what with
  | 0 => nI mi
  | 1 => nI (mi / 60 % 24)
  | 2 => nI (cnt 72 (fun k => kd k == 1))
  | 3 => nI (cnt 72 (fun k => kd k == 2))
  | 4 => nI (cnt 72 (fun k => kd k == 2 && (hr k).testBit (mi / 60 % 24)))
  | 5 => nI (cnt 36 cp)
  | 6 => nI (cnt 36 br)
  | 7 => nI n
  | 8 => dr
  | 9 => me
  | 10 => di
  | _ => re
def sftS (y : sW) (what : Nat) : Int32 := match y with
  | (ho, _, ch, _, _, _, _, may, mp) => match what with
    | 0 => wayW may mp ho
    | 1 => costI (wayW may mp ho)
    | 2 => b2i (safeB ch (costI (wayW may mp ho)))
    | _ => goalW may mp
def edgS (kd hr : Nat → Nat) (mi c s what : Nat) : Int32 := match what with
  | 0 => nI (kndS kd c s)
  | 1 => b2i (clsS kd hr (mi / 60 % 24) c s)
  | _ => nI (hrsS hr c s)
def anyF (may : Nat → Bool) (c : Nat) : Bool := may (4 * c) || may (4 * c + 1) || may (4 * c + 2) || may (4 * c + 3)
def dbtS (may : Nat → Bool) : UInt64 := FP.ddiv (FP.i2d (nI (cnt 36 (anyF may)))) 4630263366890291200
def bstS (may : Nat → Bool) (mp : Nat → Nat) : Nat → Nat
  | 0 => 0
  | a + 1 => if wrsW may mp (a + 1) < wrsW may mp (bstS may mp a) then a + 1 else bstS may mp a
theorem bstS_le (may : Nat → Bool) (mp : Nat → Nat) : ∀ a, bstS may mp a ≤ a
  | 0 => Nat.le_refl 0
  | a + 1 => by
    unfold bstS
    split
    · exact Nat.le_refl _
    · exact Nat.le_succ_of_le (bstS_le may mp a)
def sndW (kd hr : Nat → Nat) (mi : Nat) (y : sW) : Bool := decide (¬ y.2.2.2.2.1 < y.2.2.2.2.2.1 + y.2.2.2.2.2.2.1) && decide (nI (knwS kd hr y.2.2.2.2.2.2.2.2 (mi / 60 % 24) true) + nI (knwS kd hr y.2.2.2.2.2.2.2.2 (mi / 60 % 24) false) = figS y 5 + figS y 6)
def sndS (kd hr : Nat → Nat) (mi n : Nat) (ws : Nat → sW) : Bool := (fst1 3 fun i => decide (i < n) && !(sndW kd hr mi (ws i))).isNone
theorem dbt_ok : ∀ k : Fin 37, (FP.ddiv (FP.i2d (nI k.val)) 4630263366890291200) &&& 0x7fffffffffffffff ≤ 0x7ff0000000000000 := by decide +kernel
section ASK
variable {w : am_Wd} {g : Nat → Nat} {x fl ka ha wr C B : Nat} {wad : Nat → Nat} {kd hr : Nat → Nat} {cp br : Nat → Bool} {n : Nat} {ws : Nat → sW} {mi nd : Nat} {dr me di re : Int32}
variable {i ho po ch : Nat} {lo ac bu sl : Int32} {may : Nat → Bool} {mp : Nat → Nat}
theorem x169 (R : RCx w g x fl ka ha wr C B wad kd hr cp br n ws mi nd dr me di re) (hk : kdok kd) (hh : hrok hr) (hm : mi ≤ 3000) {c s k : Nat} (hc : c ≤ 35) (hs : s ≤ 3) (hq : k ≤ 2) : am_x 169 [.ref x, .int (nI c), .int (nI s), .int (nI k)] w = some (.inl (some (.int (edgS kd hr mi c s k))), w) := by
  have a0 := x124 R.2.1 (c := c) (s := s) (by omega) (by omega)
  have a1 := x126 R.2.1 hk hh (c := c) (s := s) (h := mi / 60 % 24) (by omega) (by omega) (by omega)
  have a2 := x125 R.2.1 (c := c) (s := s) (by omega) (by omega)
  have kf := kfc R.2.1.1
  rcases (show k = 0 ∨ k = 1 ∨ k = 2 by omega) with rfl | rfl | rfl
  · simp only [bk169_0, bk169_4, bk169_8, bk169_14, bk169_40, bk169_50, bk169_67, bk169_44, bk169_54, bk169_71, bk169_49, bk169_60, bk169_76, bk169_63, bk169_66, bx169, x29 hc, x30 hs, x92 (show 2 < 2147483648 by decide) (show 0 ≤ 0 by decide) (show 0 ≤ 2 by decide), gfc R.1, oX_0, oX_1, oX_2, oX_3, oX_4, oX_5, oX_6, oX_7, oX_8, kf, a0, Option.bind_some, bct_v, bct_t, otl_s, otl_n, List.cons_append, List.nil_append, List.getElem?_cons_zero, List.getElem?_cons_succ, ↓reduceIte, nI_add, nI_leS, nI_ltS, nI_eqS, nI_m1S, Nat.reduceAdd, Nat.reduceLT, Nat.reduceLeDiff, Nat.reduceMul, Nat.reduceEqDiff, not_true_eq_false, not_false_eq_true]
    rfl
  · simp only [bk169_0, bk169_4, bk169_8, bk169_14, bk169_40, bk169_50, bk169_67, bk169_44, bk169_54, bk169_71, bk169_49, bk169_60, bk169_76, bk169_63, bk169_66, bx169, x29 hc, x30 hs, x92 (show 2 < 2147483648 by decide) (show 0 ≤ 1 by decide) (show 1 ≤ 2 by decide), gfc R.1, oX_0, oX_1, oX_2, oX_3, oX_4, oX_5, oX_6, oX_7, oX_8, kf, rc_kf R, x33 R hm, a1, x26, Option.bind_some, bct_v, bct_t, otl_s, otl_n, List.cons_append, List.nil_append, List.getElem?_cons_zero, List.getElem?_cons_succ, ↓reduceIte, nI_add, nI_leS, nI_ltS, nI_eqS, nI_m1S, Nat.reduceAdd, Nat.reduceLT, Nat.reduceLeDiff, Nat.reduceMul, Nat.reduceEqDiff, not_true_eq_false, not_false_eq_true]
    rfl
  · simp only [bk169_0, bk169_4, bk169_8, bk169_14, bk169_40, bk169_50, bk169_67, bk169_44, bk169_54, bk169_71, bk169_49, bk169_60, bk169_76, bk169_63, bk169_66, bx169, x29 hc, x30 hs, x92 (show 2 < 2147483648 by decide) (show 0 ≤ 2 by decide) (show 2 ≤ 2 by decide), gfc R.1, oX_0, oX_1, oX_2, oX_3, oX_4, oX_5, oX_6, oX_7, oX_8, kf, a2, Option.bind_some, bct_v, bct_t, otl_s, otl_n, List.cons_append, List.nil_append, List.getElem?_cons_zero, List.getElem?_cons_succ, ↓reduceIte, nI_add, nI_leS, nI_ltS, nI_eqS, nI_m1S, Nat.reduceAdd, Nat.reduceLT, Nat.reduceLeDiff, Nat.reduceMul, Nat.reduceEqDiff, not_true_eq_false, not_false_eq_true]
    rfl
theorem x169c {z z2 z3 : Int32} (hz : z < nI 0 ∨ nI 35 < z) : am_x 169 [.ref x, .int z, .int z2, .int z3] w = some (.inr (am_xn 0), am_jk w 1 6) := by
  simp only [bx169, bk169_0, x29n hz, Option.bind_some, bct_v, bct_t, otl_s, otl_n, List.cons_append, List.nil_append, List.getElem?_cons_zero, List.getElem?_cons_succ, ↓reduceIte]
theorem x169s {c : Nat} (hc : c ≤ 35) {z z3 : Int32} (hz : z < nI 0 ∨ nI 3 < z) : am_x 169 [.ref x, .int (nI c), .int z, .int z3] w = some (.inr (am_xn 0), am_jk w 1 6) := by
  simp only [bk169_0, bk169_4, bk169_8, bk169_14, bk169_40, bk169_50, bk169_67, bk169_44, bk169_54, bk169_71, bk169_49, bk169_60, bk169_76, bk169_63, bk169_66, bx169, x29 hc, x30n hz, Option.bind_some, bct_v, bct_t, otl_s, otl_n, List.cons_append, List.nil_append, List.getElem?_cons_zero, List.getElem?_cons_succ, ↓reduceIte]
theorem x169k {c s : Nat} (hc : c ≤ 35) (hs : s ≤ 3) {z : Int32} (hz : z < nI 0 ∨ nI 2 < z) : am_x 169 [.ref x, .int (nI c), .int (nI s), .int z] w = some (.inr (am_xn 1), am_jk w 1 6) := by
  simp only [bk169_0, bk169_4, bk169_8, bk169_14, bk169_40, bk169_50, bk169_67, bk169_44, bk169_54, bk169_71, bk169_49, bk169_60, bk169_76, bk169_63, bk169_66, bx169, x29 hc, x30 hs, x92n hz, Option.bind_some, bct_v, bct_t, otl_s, otl_n, List.cons_append, List.nil_append, List.getElem?_cons_zero, List.getElem?_cons_succ, ↓reduceIte]
theorem x165 {a : Nat} (h : Wkv w g i a (ho, po, ch, lo, ac, bu, sl, may, mp)) {k : Nat} (hk : k ≤ 12) (h7 : k ≠ 7) (h8 : k ≠ 8) : am_x 165 [.ref a, .int (nI k)] w = some (.inl (some (.int (figS (ho, po, ch, lo, ac, bu, sl, may, mp) k))), w) := by
  have z128 := x128 h
  have kf := wk_kf h
  obtain ⟨m, be, fa, wa, ca, F, W, N, h1, h2, h3, h4, g1, g2, g3, g4, g5, g6⟩ := h
  have z72 := x72 h3 h4
  have z83 := x83 h2
  have z84 := x84 h2
  rcases (show k = 0 ∨ k = 1 ∨ k = 2 ∨ k = 3 ∨ k = 4 ∨ k = 5 ∨ k = 6 ∨ k = 9 ∨ k = 10 ∨ k = 11 ∨ k = 12 by omega) with rfl | rfl | rfl | rfl | rfl | rfl | rfl | rfl | rfl | rfl | rfl <;>
    (simp only [bk165_0, bk165_64, bk165_69, bk165_74, bk165_79, bk165_87, bk165_95, bk165_103, bk165_126, bk165_111, bk165_116, bk165_121, bk165_68, bk165_73, bk165_78, bk165_83, bk165_91, bk165_99, bk165_107, bk165_130, bk165_115, bk165_120, bk165_125, bk165_86, bk165_94, bk165_102, bk165_110, bx165, gfc h1, oW_0, oW_1, oW_2, oW_3, oW_4, oW_5, oW_6, oW_7, oW_8, kfc h3.1, kfc h2.1, kf, z72, z83, z84, z128, x26, Option.bind_some, bct_v, bct_t, otl_s, otl_n, List.cons_append, List.nil_append, List.getElem?_cons_zero, List.getElem?_cons_succ, ↓reduceIte, nI_add, nI_leS, nI_ltS, nI_eqS, nI_m1S, Nat.reduceAdd, Nat.reduceLT, Nat.reduceLeDiff, Nat.reduceMul, Nat.reduceEqDiff, not_true_eq_false, not_false_eq_true]; rfl)
theorem x201 (R : RCx w g x fl ka ha wr C B wad kd hr cp br n ws mi nd dr me di re) (hn : n ≤ 3) (hk : kdok kd) (hh : hrok hr) (hm : mi ≤ 3000) (hi : i < n) (hy : ws i = (ho, po, ch, lo, ac, bu, sl, may, mp)) (hp : mpo mp) {k : Nat} (hq : k ≤ 12) : am_x 201 [.ref x, .int (nI i), .int (nI k)] w = some (.inl (some (.int (ofwS kd hr mi (ws i) k))), w) := by
  have h := rc_get R hi hy
  have kf := wk_kf h
  have a31 := x31 R hn hi
  have z := fun h7 h8 => x165 h (k := k) hq h7 h8
  obtain ⟨m, be, fa, wa, ca, F, W, N, h1, h2, h3, h4, g1, g2, g3, g4, g5, g6⟩ := h
  have k1 : am_x 159 [.ref fl, .ref m, .int (nI 1), .int (nI (mi / 60 % 24))] w = _ := x159 R.2.1 hk hh h2 hp (h := mi / 60 % 24) (by omega) true
  have k0 : am_x 159 [.ref fl, .ref m, .int (nI 0), .int (nI (mi / 60 % 24))] w = _ := x159 R.2.1 hk hh h2 hp (h := mi / 60 % 24) (by omega) false
  unfold ofwS
  rw [hy]
  by_cases e7 : k = 7
  · subst e7
    rw [if_pos rfl]
    simp only [bk201_0, bk201_5, bk201_13, bk201_40, bk201_57, bk201_74, bk201_44, bk201_61, bk201_79, bk201_48, bk201_65, bk201_53, bk201_70, bk201_56, bk201_73, bx201, rc_kf R, a31, x92 (show 12 < 2147483648 by decide) (show 0 ≤ 7 by decide) (show 7 ≤ 12 by decide), gfc R.1, oX_0, oX_1, oX_2, oX_3, oX_4, oX_5, oX_6, oX_7, oX_8, gfc h1, oW_0, oW_1, oW_2, oW_3, oW_4, oW_5, oW_6, oW_7, oW_8, x33 R hm, kfc R.2.1.1, k1, Option.bind_some, bct_v, bct_t, otl_s, otl_n, List.cons_append, List.nil_append, List.getElem?_cons_zero, List.getElem?_cons_succ, ↓reduceIte, nI_add, nI_leS, nI_ltS, nI_eqS, nI_m1S, Nat.reduceAdd, Nat.reduceLT, Nat.reduceLeDiff, Nat.reduceMul, Nat.reduceEqDiff, not_true_eq_false, not_false_eq_true]
  · rw [if_neg e7]
    by_cases e8 : k = 8
    · subst e8
      rw [if_pos rfl]
      simp only [bk201_0, bk201_5, bk201_13, bk201_40, bk201_57, bk201_74, bk201_44, bk201_61, bk201_79, bk201_48, bk201_65, bk201_53, bk201_70, bk201_56, bk201_73, bx201, rc_kf R, a31, x92 (show 12 < 2147483648 by decide) (show 0 ≤ 8 by decide) (show 8 ≤ 12 by decide), gfc R.1, oX_0, oX_1, oX_2, oX_3, oX_4, oX_5, oX_6, oX_7, oX_8, gfc h1, oW_0, oW_1, oW_2, oW_3, oW_4, oW_5, oW_6, oW_7, oW_8, x33 R hm, kfc R.2.1.1, k0, Option.bind_some, bct_v, bct_t, otl_s, otl_n, List.cons_append, List.nil_append, List.getElem?_cons_zero, List.getElem?_cons_succ, ↓reduceIte, nI_add, nI_leS, nI_ltS, nI_eqS, nI_m1S, Nat.reduceAdd, Nat.reduceLT, Nat.reduceLeDiff, Nat.reduceMul, Nat.reduceEqDiff, not_true_eq_false, not_false_eq_true]
    · rw [if_neg e8]
      simp only [bk201_0, bk201_5, bk201_13, bk201_40, bk201_57, bk201_74, bk201_44, bk201_61, bk201_79, bk201_48, bk201_65, bk201_53, bk201_70, bk201_56, bk201_73, bx201, rc_kf R, a31, x92 (show 12 < 2147483648 by decide) (Nat.zero_le k) hq, nI_eqS (show k < 2147483648 by omega) (show 7 < 2147483648 by decide), nI_eqS (show k < 2147483648 by omega) (show 8 < 2147483648 by decide), e7, e8, kf, z e7 e8, Option.bind_some, bct_v, bct_t, otl_s, otl_n, List.cons_append, List.nil_append, List.getElem?_cons_zero, List.getElem?_cons_succ, ↓reduceIte]
theorem x201k (R : RCx w g x fl ka ha wr C B wad kd hr cp br n ws mi nd dr me di re) (hn : n ≤ 3) (hi : i < n) {z : Int32} (hz : z < nI 0 ∨ nI 12 < z) : am_x 201 [.ref x, .int (nI i), .int z] w = some (.inr (am_xn 1), am_jk w 1 6) := by
  simp only [bk201_0, bk201_5, bk201_13, bk201_40, bk201_57, bk201_74, bk201_44, bk201_61, bk201_79, bk201_48, bk201_65, bk201_53, bk201_70, bk201_56, bk201_73, bx201, rc_kf R, x31 R hn hi, x92n hz, Option.bind_some, bct_v, bct_t, otl_s, otl_n, List.cons_append, List.nil_append, List.getElem?_cons_zero, List.getElem?_cons_succ, ↓reduceIte]
theorem x201n (R : RCx w g x fl ka ha wr C B wad kd hr cp br n ws mi nd dr me di re) (hn : n ≤ 3) {z z2 : Int32} (hz : z < nI 0 ∨ nI n ≤ z) : am_x 201 [.ref x, .int z, .int z2] w = some (.inr (am_xn 0), am_jk w 1 6) := by
  simp only [bk201_0, bk201_5, bk201_13, bk201_40, bk201_57, bk201_74, bk201_44, bk201_61, bk201_79, bk201_48, bk201_65, bk201_53, bk201_70, bk201_56, bk201_73, bx201, rc_kf R, x31n R hn hz, Option.bind_some, bct_v, bct_t, otl_s, otl_n, List.cons_append, List.nil_append, List.getElem?_cons_zero, List.getElem?_cons_succ, ↓reduceIte]
theorem x136 (R : RCx w g x fl ka ha wr C B wad kd hr cp br n ws mi nd dr me di re) (hk : kdok kd) (hh : hrok hr) (hm : mi ≤ 3000) {k : Nat} (hq : k ≤ 11) : am_x 136 [.ref x, .int (nI k)] w = some (.inl (some (.int (hsS kd hr cp br n mi dr me di re k))), w) := by
  have a1 := x10 R.2.1 hk (q := 1) (by decide)
  have a2 := x10 R.2.1 hk (q := 2) (by decide)
  have a4 := x77 R.2.1 hk hh (h := mi / 60 % 24) (by omega)
  have a5 := bc_36 R.2.2.1 w
  have a6 := bc_36 R.2.2.2.1 w
  have a92 : ∀ j, j ≤ 11 → am_x 92 [.int (nI j), .int (nI 0), .int (nI 11)] w = some (.inl none, w) := fun j hj => x92 (by decide) (Nat.zero_le j) hj
  rcases (show k = 0 ∨ k = 1 ∨ k = 2 ∨ k = 3 ∨ k = 4 ∨ k = 5 ∨ k = 6 ∨ k = 7 ∨ k = 8 ∨ k = 9 ∨ k = 10 ∨ k = 11 by omega) with rfl | rfl | rfl | rfl | rfl | rfl | rfl | rfl | rfl | rfl | rfl | rfl <;>
    (simp only [bk136_0, bk136_7, bk136_68, bk136_73, bk136_78, bk136_87, bk136_96, bk136_108, bk136_119, bk136_130, bk136_135, bk136_140, bk136_145, bk136_150, bk136_72, bk136_77, bk136_82, bk136_91, bk136_100, bk136_112, bk136_123, bk136_134, bk136_139, bk136_144, bk136_149, bk136_154, bk136_86, bk136_95, bk136_104, bk136_115, bk136_126, bk136_107, bk136_118, bk136_129, bx136, a92 _ hq, gfc R.1, oX_0, oX_1, oX_2, oX_3, oX_4, oX_5, oX_6, oX_7, oX_8, rc_kf R, x33 R hm, kfc R.2.1.1, gfc R.2.1.1, a1, a2, a4, a5, a6, Option.bind_some, bct_v, bct_t, otl_s, otl_n, List.cons_append, List.nil_append, List.getElem?_cons_zero, List.getElem?_cons_succ, ↓reduceIte, nI_add, nI_leS, nI_ltS, nI_eqS, nI_m1S, Nat.reduceAdd, Nat.reduceLT, Nat.reduceLeDiff, Nat.reduceMul, Nat.reduceEqDiff, not_true_eq_false, not_false_eq_true]; rfl)
theorem x136n {z : Int32} (hz : z < nI 0 ∨ nI 11 < z) : am_x 136 [.ref x, .int z] w = some (.inr (am_xn 1), am_jk w 1 6) := by
  simp only [bx136, bk136_0, x92n hz, Option.bind_some, bct_v, bct_t, otl_s, otl_n, List.cons_append, List.nil_append, List.getElem?_cons_zero, List.getElem?_cons_succ, ↓reduceIte]
theorem x137 (R : RCx w g x fl ka ha wr C B wad kd hr cp br n ws mi nd dr me di re) (hn : n ≤ 3) (hi : i < n) (hy : ws i = (ho, po, ch, lo, ac, bu, sl, may, mp)) (hp : mpo mp) {c s : Nat} (hc : c ≤ 35) (hs : s ≤ 3) : am_x 137 [.ref x, .int (nI i), .int (nI c), .int (nI s)] w = some (.inl (some (.int (nI (kno mp c s)))), w) := by
  have h := rc_get R hi hy
  obtain ⟨m, be, fa, wa, ca, F, W, N, h1, h2, h3, h4, g1, g2, g3, g4, g5, g6⟩ := h
  have z := x81 h2 hp (c := c) (s := s) (by omega) (by omega)
  simp only [bk137_0, bk137_5, bk137_11, bk137_15, bk137_20, bk137_25, bx137, rc_kf R, x31 R hn hi, x29 hc, x30 hs, gfc h1, oW_0, oW_1, oW_2, oW_3, oW_4, oW_5, oW_6, oW_7, oW_8, kfc h2.1, z, Option.bind_some, bct_v, bct_t, otl_s, otl_n, List.cons_append, List.nil_append, List.getElem?_cons_zero, List.getElem?_cons_succ, ↓reduceIte]
theorem x137s (R : RCx w g x fl ka ha wr C B wad kd hr cp br n ws mi nd dr me di re) (hn : n ≤ 3) (hi : i < n) {c : Nat} (hc : c ≤ 35) {z : Int32} (hz : z < nI 0 ∨ nI 3 < z) : am_x 137 [.ref x, .int (nI i), .int (nI c), .int z] w = some (.inr (am_xn 0), am_jk w 1 6) := by
  simp only [bk137_0, bk137_5, bk137_11, bk137_15, bk137_20, bk137_25, bx137, rc_kf R, x31 R hn hi, x29 hc, x30n hz, Option.bind_some, bct_v, bct_t, otl_s, otl_n, List.cons_append, List.nil_append, List.getElem?_cons_zero, List.getElem?_cons_succ, ↓reduceIte]
theorem x137c (R : RCx w g x fl ka ha wr C B wad kd hr cp br n ws mi nd dr me di re) (hn : n ≤ 3) (hi : i < n) {z z2 : Int32} (hz : z < nI 0 ∨ nI 35 < z) : am_x 137 [.ref x, .int (nI i), .int z, .int z2] w = some (.inr (am_xn 0), am_jk w 1 6) := by
  simp only [bk137_0, bk137_5, bk137_11, bk137_15, bk137_20, bk137_25, bx137, rc_kf R, x31 R hn hi, x29n hz, Option.bind_some, bct_v, bct_t, otl_s, otl_n, List.cons_append, List.nil_append, List.getElem?_cons_zero, List.getElem?_cons_succ, ↓reduceIte]
theorem x137n (R : RCx w g x fl ka ha wr C B wad kd hr cp br n ws mi nd dr me di re) (hn : n ≤ 3) {z z2 z3 : Int32} (hz : z < nI 0 ∨ nI n ≤ z) : am_x 137 [.ref x, .int z, .int z2, .int z3] w = some (.inr (am_xn 0), am_jk w 1 6) := by
  simp only [bk137_0, bk137_5, bk137_11, bk137_15, bk137_20, bk137_25, bx137, rc_kf R, x31n R hn hz, Option.bind_some, bct_v, bct_t, otl_s, otl_n, List.cons_append, List.nil_append, List.getElem?_cons_zero, List.getElem?_cons_succ, ↓reduceIte]
theorem x138 (R : RCx w g x fl ka ha wr C B wad kd hr cp br n ws mi nd dr me di re) (hn : n ≤ 3) (hi : i < n) (hy : ws i = (ho, po, ch, lo, ac, bu, sl, may, mp)) {p : Nat} (hp : p ≤ 143) : am_x 138 [.ref x, .int (nI i), .int (nI p)] w = some (.inl (some (.int (b2i (may p)))), w) := by
  have h := rc_get R hi hy
  obtain ⟨m, be, fa, wa, ca, F, W, N, h1, h2, h3, h4, g1, g2, g3, g4, g5, g6⟩ := h
  have z := x73 h3 h4 (p := p) (by omega)
  have e1 : (nI p < nI 144) = True := by rw [nI_ltS (by omega) (by decide)]; exact eq_true (by omega)
  have e2 : (nI 144 ≤ nI p) = False := by rw [nI_leS (by decide) (by omega)]; exact eq_false (by omega)
  have e3 : (nI p < nI 0) = False := by rw [nI_ltS (by omega) (by decide)]; exact eq_false (by omega)
  simp only [bk138_0, bk138_5, bk138_17, bk138_10, bk138_27, bk138_31, bk138_35, bx138, rc_kf R, x31 R hn hi, e1, e2, e3, gfc h1, oW_0, oW_1, oW_2, oW_3, oW_4, oW_5, oW_6, oW_7, oW_8, kfc h3.1, z, b2i_ok, Option.bind_some, bct_v, bct_t, otl_s, otl_n, List.cons_append, List.nil_append, List.getElem?_cons_zero, List.getElem?_cons_succ, ↓reduceIte]
theorem x138p (R : RCx w g x fl ka ha wr C B wad kd hr cp br n ws mi nd dr me di re) (hn : n ≤ 3) (hi : i < n) {z : Int32} (hz : z < nI 0 ∨ nI 143 < z) : am_x 138 [.ref x, .int (nI i), .int z] w = some (.inr (am_xn 0), am_jk w 1 6) := by
  by_cases q : z < nI 0
  · simp only [bk138_0, bk138_5, bk138_17, bk138_10, bk138_27, bk138_31, bk138_35, bx138, rc_kf R, x31 R hn hi, q, Option.bind_some, bct_v, bct_t, otl_s, otl_n, List.cons_append, List.nil_append, List.getElem?_cons_zero, List.getElem?_cons_succ, ↓reduceIte]
  · have h2 := ge_gt (by decide) (hz.resolve_left q)
    have h3 : nI 144 ≤ z := h2
    simp only [bk138_0, bk138_5, bk138_17, bk138_10, bk138_27, bk138_31, bk138_35, bx138, rc_kf R, x31 R hn hi, q, h3, nlt_ge h3, Option.bind_some, bct_v, bct_t, otl_s, otl_n, List.cons_append, List.nil_append, List.getElem?_cons_zero, List.getElem?_cons_succ, ↓reduceIte]
theorem x138n (R : RCx w g x fl ka ha wr C B wad kd hr cp br n ws mi nd dr me di re) (hn : n ≤ 3) {z z2 : Int32} (hz : z < nI 0 ∨ nI n ≤ z) : am_x 138 [.ref x, .int z, .int z2] w = some (.inr (am_xn 0), am_jk w 1 6) := by
  simp only [bk138_0, bk138_5, bk138_17, bk138_10, bk138_27, bk138_31, bk138_35, bx138, rc_kf R, x31n R hn hz, Option.bind_some, bct_v, bct_t, otl_s, otl_n, List.cons_append, List.nil_append, List.getElem?_cons_zero, List.getElem?_cons_succ, ↓reduceIte]
theorem x139 (R : RCx w g x fl ka ha wr C B wad kd hr cp br n ws mi nd dr me di re) (hn : n ≤ 3) (hi : i < n) (hy : ws i = (ho, po, ch, lo, ac, bu, sl, may, mp)) {f : Nat} (hf : f ≤ 3) : ∃ N, am_x 139 [.ref x, .int (nI i), .int (nI f)] w = some (.inl (some (.long (lN N))), w) ∧ bm N (fun c => may (4 * c + f)) := by
  have h := rc_get R hi hy
  obtain ⟨m, be, fa, wa, ca, F, W, N, h1, h2, h3, h4, g1, g2, g3, g4, g5, g6⟩ := h
  refine ⟨N f, ?_, h4 f (by omega)⟩
  have r0 := rlc h3.2 (i := f) (by omega) (by decide)
  simp only [bk139_0, bk139_5, bk139_12, bk139_16, bk139_19, bk139_21, bx139, rc_kf R, x31 R hn hi, x92 (show 3 < 2147483648 by decide) (Nat.zero_le f) hf, gfc h1, oW_0, oW_1, oW_2, oW_3, oW_4, oW_5, oW_6, oW_7, oW_8, gfc h3.1, r0, Option.bind_some, bct_v, bct_t, otl_s, otl_n, List.cons_append, List.nil_append, List.getElem?_cons_zero, List.getElem?_cons_succ, ↓reduceIte]
theorem x139f (R : RCx w g x fl ka ha wr C B wad kd hr cp br n ws mi nd dr me di re) (hn : n ≤ 3) (hi : i < n) {z : Int32} (hz : z < nI 0 ∨ nI 3 < z) : am_x 139 [.ref x, .int (nI i), .int z] w = some (.inr (am_xn 1), am_jk w 1 6) := by
  simp only [bk139_0, bk139_5, bk139_12, bk139_16, bk139_19, bk139_21, bx139, rc_kf R, x31 R hn hi, x92n hz, Option.bind_some, bct_v, bct_t, otl_s, otl_n, List.cons_append, List.nil_append, List.getElem?_cons_zero, List.getElem?_cons_succ, ↓reduceIte]
theorem x139n (R : RCx w g x fl ka ha wr C B wad kd hr cp br n ws mi nd dr me di re) (hn : n ≤ 3) {z z2 : Int32} (hz : z < nI 0 ∨ nI n ≤ z) : am_x 139 [.ref x, .int z, .int z2] w = some (.inr (am_xn 0), am_jk w 1 6) := by
  simp only [bk139_0, bk139_5, bk139_12, bk139_16, bk139_19, bk139_21, bx139, rc_kf R, x31n R hn hz, Option.bind_some, bct_v, bct_t, otl_s, otl_n, List.cons_append, List.nil_append, List.getElem?_cons_zero, List.getElem?_cons_succ, ↓reduceIte]
theorem x140 (R : RCx w g x fl ka ha wr C B wad kd hr cp br n ws mi nd dr me di re) (hn : n ≤ 3) (hi : i < n) (hy : ws i = (ho, po, ch, lo, ac, bu, sl, may, mp)) {f t : Nat} (hf : f ≤ 35) (ht : t ≤ 35) : am_x 140 [.ref x, .int (nI i), .int (nI f), .int (nI t)] w = some (.inl (some (.int (no (wayS mp f t)))), w) := by
  have h := rc_get R hi hy
  obtain ⟨m, be, fa, wa, ca, F, W, N, h1, h2, h3, h4, g1, g2, g3, g4, g5, g6⟩ := h
  have z := x87 h2 (f := f) (t := t) (by omega) (by omega)
  simp only [bk140_0, bk140_5, bk140_11, bk140_15, bk140_20, bk140_25, bx140, rc_kf R, x31 R hn hi, x29 hf, x29 ht, gfc h1, oW_0, oW_1, oW_2, oW_3, oW_4, oW_5, oW_6, oW_7, oW_8, kfc h2.1, z, Option.bind_some, bct_v, bct_t, otl_s, otl_n, List.cons_append, List.nil_append, List.getElem?_cons_zero, List.getElem?_cons_succ, ↓reduceIte]
theorem x140t (R : RCx w g x fl ka ha wr C B wad kd hr cp br n ws mi nd dr me di re) (hn : n ≤ 3) (hi : i < n) {f : Nat} (hf : f ≤ 35) {z : Int32} (hz : z < nI 0 ∨ nI 35 < z) : am_x 140 [.ref x, .int (nI i), .int (nI f), .int z] w = some (.inr (am_xn 0), am_jk w 1 6) := by
  simp only [bk140_0, bk140_5, bk140_11, bk140_15, bk140_20, bk140_25, bx140, rc_kf R, x31 R hn hi, x29 hf, x29n hz, Option.bind_some, bct_v, bct_t, otl_s, otl_n, List.cons_append, List.nil_append, List.getElem?_cons_zero, List.getElem?_cons_succ, ↓reduceIte]
theorem x140f (R : RCx w g x fl ka ha wr C B wad kd hr cp br n ws mi nd dr me di re) (hn : n ≤ 3) (hi : i < n) {z z2 : Int32} (hz : z < nI 0 ∨ nI 35 < z) : am_x 140 [.ref x, .int (nI i), .int z, .int z2] w = some (.inr (am_xn 0), am_jk w 1 6) := by
  simp only [bk140_0, bk140_5, bk140_11, bk140_15, bk140_20, bk140_25, bx140, rc_kf R, x31 R hn hi, x29n hz, Option.bind_some, bct_v, bct_t, otl_s, otl_n, List.cons_append, List.nil_append, List.getElem?_cons_zero, List.getElem?_cons_succ, ↓reduceIte]
theorem x140n (R : RCx w g x fl ka ha wr C B wad kd hr cp br n ws mi nd dr me di re) (hn : n ≤ 3) {z z2 z3 : Int32} (hz : z < nI 0 ∨ nI n ≤ z) : am_x 140 [.ref x, .int z, .int z2, .int z3] w = some (.inr (am_xn 0), am_jk w 1 6) := by
  simp only [bk140_0, bk140_5, bk140_11, bk140_15, bk140_20, bk140_25, bx140, rc_kf R, x31n R hn hz, Option.bind_some, bct_v, bct_t, otl_s, otl_n, List.cons_append, List.nil_append, List.getElem?_cons_zero, List.getElem?_cons_succ, ↓reduceIte]
theorem x223 (R : RCx w g x fl ka ha wr C B wad kd hr cp br n ws mi nd dr me di re) (hn : n ≤ 3) (hi : i < n) (hy : ws i = (ho, po, ch, lo, ac, bu, sl, may, mp)) (hp : mpo mp) (hh : ho < 36) {k : Nat} (hq : k ≤ 3) : am_x 223 [.ref x, .int (nI i), .int (nI k)] w = some (.inl (some (.int (sftS (ws i) k))), w) := by
  have h := rc_get R hi hy
  have kf := wk_kf h
  have z1 := x162 h hh
  have z2 := x199 h hh
  have z3 := x163 h hp
  have a31 := x31 R hn hi
  rw [hy]
  rcases (show k = 0 ∨ k = 1 ∨ k = 2 ∨ k = 3 by omega) with rfl | rfl | rfl | rfl <;>
    (simp only [bk223_0, bk223_5, bk223_12, bk223_40, bk223_45, bk223_53, bk223_61, bk223_44, bk223_49, bk223_57, bk223_65, bk223_52, bk223_60, bx223, rc_kf R, a31, x92 (show 3 < 2147483648 by decide) (Nat.zero_le _) hq, kf, z1, z2, z3, x19, x26, Option.bind_some, bct_v, bct_t, otl_s, otl_n, List.cons_append, List.nil_append, List.getElem?_cons_zero, List.getElem?_cons_succ, ↓reduceIte, nI_add, nI_leS, nI_ltS, nI_eqS, nI_m1S, Nat.reduceAdd, Nat.reduceLT, Nat.reduceLeDiff, Nat.reduceMul, Nat.reduceEqDiff, not_true_eq_false, not_false_eq_true]; rfl)
theorem x223k (R : RCx w g x fl ka ha wr C B wad kd hr cp br n ws mi nd dr me di re) (hn : n ≤ 3) (hi : i < n) {z : Int32} (hz : z < nI 0 ∨ nI 3 < z) : am_x 223 [.ref x, .int (nI i), .int z] w = some (.inr (am_xn 1), am_jk w 1 6) := by
  simp only [bk223_0, bk223_5, bk223_12, bk223_40, bk223_45, bk223_53, bk223_61, bk223_44, bk223_49, bk223_57, bk223_65, bk223_52, bk223_60, bx223, rc_kf R, x31 R hn hi, x92n hz, Option.bind_some, bct_v, bct_t, otl_s, otl_n, List.cons_append, List.nil_append, List.getElem?_cons_zero, List.getElem?_cons_succ, ↓reduceIte]
theorem x223n (R : RCx w g x fl ka ha wr C B wad kd hr cp br n ws mi nd dr me di re) (hn : n ≤ 3) {z z2 : Int32} (hz : z < nI 0 ∨ nI n ≤ z) : am_x 223 [.ref x, .int z, .int z2] w = some (.inr (am_xn 0), am_jk w 1 6) := by
  simp only [bk223_0, bk223_5, bk223_12, bk223_40, bk223_45, bk223_53, bk223_61, bk223_44, bk223_49, bk223_57, bk223_65, bk223_52, bk223_60, bx223, rc_kf R, x31n R hn hz, Option.bind_some, bct_v, bct_t, otl_s, otl_n, List.cons_append, List.nil_append, List.getElem?_cons_zero, List.getElem?_cons_succ, ↓reduceIte]
theorem x91 (R : RCx w g x fl ka ha wr C B wad kd hr cp br n ws mi nd dr me di re) (hn : n ≤ 3) (hi : i < n) (hy : ws i = (ho, po, ch, lo, ac, bu, sl, may, mp)) : am_x 91 [.ref x, .int (nI i)] w = some (.inl (some (.double (dbtS may))), w) := by
  have h := rc_get R hi hy
  obtain ⟨m, be, fa, wa, ca, F, W, N, h1, h2, h3, h4, g1, g2, g3, g4, g5, g6⟩ := h
  obtain ⟨K, k1, k2⟩ := x3 h3 h4
  have k3 := bc_36 (p := anyF may) k2 w
  have hl := cnt_le (anyF may) 36
  have hn := dbt_ok ⟨cnt 36 (anyF may), by omega⟩
  simp only [bx91, bk91_0, rc_kf R, x31 R ‹n ≤ 3› hi, bk91_5, gfc h1, oW_0, oW_1, oW_2, oW_3, oW_4, oW_5, oW_6, oW_7, oW_8, bk91_10, kfc h3.1, k1, bk91_13, k3, Option.bind_some, bct_v, bct_t, otl_s, otl_n, List.cons_append, List.nil_append, List.getElem?_cons_zero, List.getElem?_cons_succ, ↓reduceIte]
  rw [bk91_16 hn, bk91_21]
  rfl
theorem x91n (R : RCx w g x fl ka ha wr C B wad kd hr cp br n ws mi nd dr me di re) (hn : n ≤ 3) {z : Int32} (hz : z < nI 0 ∨ nI n ≤ z) : am_x 91 [.ref x, .int z] w = some (.inr (am_xn 0), am_jk w 1 6) := by
  simp only [bx91, bk91_0, rc_kf R, x31n R hn hz, Option.bind_some, bct_v, bct_t, otl_s, otl_n, List.cons_append, List.nil_append, List.getElem?_cons_zero, List.getElem?_cons_succ, ↓reduceIte]
theorem x202 (R : RCx w g x fl ka ha wr C B wad kd hr cp br n ws mi nd dr me di re) (hn : n ≤ 3) (hi : i < n) (hy : ws i = (ho, po, ch, lo, ac, bu, sl, may, mp)) {k : Nat} (hq : k ≤ 3) : am_x 202 [.ref x, .int (nI i), .int (nI k)] w = some (.inl (some (.int (nI (wrsW may mp k)))), w) := by
  have h := rc_get R hi hy
  have kf := wk_kf h
  have z := x164 h (act := k) (by omega)
  simp only [bk202_0, bk202_5, bk202_12, bk202_17, bx202, rc_kf R, x31 R hn hi, x92 (show 3 < 2147483648 by decide) (Nat.zero_le _) hq, kf, z, Option.bind_some, bct_v, bct_t, otl_s, otl_n, List.cons_append, List.nil_append, List.getElem?_cons_zero, List.getElem?_cons_succ, ↓reduceIte]
theorem x202k (R : RCx w g x fl ka ha wr C B wad kd hr cp br n ws mi nd dr me di re) (hn : n ≤ 3) (hi : i < n) {z : Int32} (hz : z < nI 0 ∨ nI 3 < z) : am_x 202 [.ref x, .int (nI i), .int z] w = some (.inr (am_xn 1), am_jk w 1 6) := by
  simp only [bk202_0, bk202_5, bk202_12, bk202_17, bx202, rc_kf R, x31 R hn hi, x92n hz, Option.bind_some, bct_v, bct_t, otl_s, otl_n, List.cons_append, List.nil_append, List.getElem?_cons_zero, List.getElem?_cons_succ, ↓reduceIte]
theorem x202n (R : RCx w g x fl ka ha wr C B wad kd hr cp br n ws mi nd dr me di re) (hn : n ≤ 3) {z z2 : Int32} (hz : z < nI 0 ∨ nI n ≤ z) : am_x 202 [.ref x, .int z, .int z2] w = some (.inr (am_xn 0), am_jk w 1 6) := by
  simp only [bk202_0, bk202_5, bk202_12, bk202_17, bx202, rc_kf R, x31n R hn hz, Option.bind_some, bct_v, bct_t, otl_s, otl_n, List.cons_append, List.nil_append, List.getElem?_cons_zero, List.getElem?_cons_succ, ↓reduceIte]
theorem x203 (R : RCx w g x fl ka ha wr C B wad kd hr cp br n ws mi nd dr me di re) (hn : n ≤ 3) (hi : i < n) (hy : ws i = (ho, po, ch, lo, ac, bu, sl, may, mp)) : am_x 203 [.ref x, .int (nI i)] w = some (.inl (some (.int (nI (bstS may mp 3)))), w) := by
  have h := rc_get R hi hy
  have kf := wk_kf h
  have st : ∀ a, a < 3 → am_run 203 11 [none, none, some (.ref (wad i)), some (.int (nI (bstS may mp a))), some (.int (nI (a + 1)))] [] w = am_run 203 11 [none, none, some (.ref (wad i)), some (.int (nI (bstS may mp (a + 1)))), some (.int (nI (a + 1 + 1)))] [] w := by
    intro a ha
    have l := bstS_le may mp a
    have z1 := x164 h (act := a + 1) (by omega)
    have z2 := x164 h (act := bstS may mp a) (by omega)
    have b1 := wrsW_le may mp (a + 1)
    have b2 := wrsW_le may mp (bstS may mp a)
    rw [bk203_11, if_neg (by rw [nI_leS (by decide) (by omega)]; omega)]
    simp only [bk203_17, kf, z1, bk203_23, z2, bk203_28, nI_leS (show wrsW may mp (bstS may mp a) < 2147483648 by omega) (show wrsW may mp (a + 1) < 2147483648 by omega), Option.bind_some, bct_v, bct_t, otl_s, otl_n, List.cons_append, List.nil_append, List.getElem?_cons_zero, List.getElem?_cons_succ, ↓reduceIte]
    rw [show bstS may mp (a + 1) = if wrsW may mp (a + 1) < wrsW may mp (bstS may mp a) then a + 1 else bstS may mp a from rfl]
    by_cases q : wrsW may mp (a + 1) < wrsW may mp (bstS may mp a)
    · rw [if_neg (by omega), if_pos q, bk203_31, bk203_34, nI_add]
    · rw [if_pos (by omega), if_neg q, bk203_34, nI_add]
  have s0 := st 0 (by decide)
  have s1 := st 1 (by decide)
  have s2 := st 2 (by decide)
  simp only [bx203, bk203_0, rc_kf R, x31 R hn hi, bk203_5, Option.bind_some, bct_v, bct_t, otl_s, otl_n, List.cons_append, List.nil_append, List.getElem?_cons_zero, List.getElem?_cons_succ, ↓reduceIte]
  refine (s0.trans (s1.trans s2)).trans ?_
  rw [bk203_11, if_pos (by rw [nI_leS (by decide) (by decide)]; decide), bk203_40]
theorem x203n (R : RCx w g x fl ka ha wr C B wad kd hr cp br n ws mi nd dr me di re) (hn : n ≤ 3) {z : Int32} (hz : z < nI 0 ∨ nI n ≤ z) : am_x 203 [.ref x, .int z] w = some (.inr (am_xn 0), am_jk w 1 6) := by
  simp only [bx203, bk203_0, rc_kf R, x31n R hn hz, Option.bind_some, bct_v, bct_t, otl_s, otl_n, List.cons_append, List.nil_append, List.getElem?_cons_zero, List.getElem?_cons_succ, ↓reduceIte]
theorem x170 (R : RCx w g x fl ka ha wr C B wad kd hr cp br n ws mi nd dr me di re) (hn : n ≤ 3) (hi : i < n) (hy : ws i = (ho, po, ch, lo, ac, bu, sl, may, mp)) {t : Nat} (hq : t ≤ 7) : am_x 170 [.ref x, .int (nI i), .int (nI t)] w = some (.inl (some (.int (nI (cnt 144 (mayL may mp t))))), w) := by
  have h := rc_get R hi hy
  obtain ⟨m, be, fa, wa, ca, F, W, N, h1, h2, h3, h4, g1, g2, g3, g4, g5, g6⟩ := h
  have z := x122 h3 h4 h2 (t := t) (by omega)
  simp only [bk170_0, bk170_5, bk170_13, bk170_17, bk170_22, bk170_25, bx170, rc_kf R, x31 R hn hi, x92 (show 7 < 2147483648 by decide) (Nat.zero_le _) hq, gfc h1, oW_0, oW_1, oW_2, oW_3, oW_4, oW_5, oW_6, oW_7, oW_8, kfc h3.1, z, Option.bind_some, bct_v, bct_t, otl_s, otl_n, List.cons_append, List.nil_append, List.getElem?_cons_zero, List.getElem?_cons_succ, ↓reduceIte]
  rfl
theorem x170k (R : RCx w g x fl ka ha wr C B wad kd hr cp br n ws mi nd dr me di re) (hn : n ≤ 3) (hi : i < n) {z : Int32} (hz : z < nI 0 ∨ nI 7 < z) : am_x 170 [.ref x, .int (nI i), .int z] w = some (.inr (am_xn 1), am_jk w 1 6) := by
  simp only [bk170_0, bk170_5, bk170_13, bk170_17, bk170_22, bk170_25, bx170, rc_kf R, x31 R hn hi, x92n hz, Option.bind_some, bct_v, bct_t, otl_s, otl_n, List.cons_append, List.nil_append, List.getElem?_cons_zero, List.getElem?_cons_succ, ↓reduceIte]
theorem x170n (R : RCx w g x fl ka ha wr C B wad kd hr cp br n ws mi nd dr me di re) (hn : n ≤ 3) {z z2 : Int32} (hz : z < nI 0 ∨ nI n ≤ z) : am_x 170 [.ref x, .int z, .int z2] w = some (.inr (am_xn 0), am_jk w 1 6) := by
  simp only [bk170_0, bk170_5, bk170_13, bk170_17, bk170_22, bk170_25, bx170, rc_kf R, x31n R hn hz, Option.bind_some, bct_v, bct_t, otl_s, otl_n, List.cons_append, List.nil_append, List.getElem?_cons_zero, List.getElem?_cons_succ, ↓reduceIte]
theorem x204 (R : RCx w g x fl ka ha wr C B wad kd hr cp br n ws mi nd dr me di re) (hk : kdok kd) (hh : hrok hr) (hm : mi ≤ 3000) {c f : Nat} (hc : c ≤ 35) (hf : f ≤ 3) : am_x 204 [.ref x, .int (nI c), .int (nI f)] w = some (.inl (some (.int (nI (fltS kd hr (mi / 60 % 24) c f)))), w) := by
  have z := x158 R.2.1 hk hh (c := c) (s := f) (h := mi / 60 % 24) (by omega) (by omega) (by omega)
  simp only [bk204_0, bk204_4, bk204_10, bk204_14, bk204_20, bk204_23, bx204, x29 hc, x92 (show 3 < 2147483648 by decide) (Nat.zero_le _) hf, gfc R.1, oX_0, oX_1, oX_2, oX_3, oX_4, oX_5, oX_6, oX_7, oX_8, rc_kf R, x33 R hm, kfc R.2.1.1, z, Option.bind_some, bct_v, bct_t, otl_s, otl_n, List.cons_append, List.nil_append, List.getElem?_cons_zero, List.getElem?_cons_succ, ↓reduceIte]
theorem x204c {z z2 : Int32} (hz : z < nI 0 ∨ nI 35 < z) : am_x 204 [.ref x, .int z, .int z2] w = some (.inr (am_xn 0), am_jk w 1 6) := by
  simp only [bx204, bk204_0, x29n hz, Option.bind_some, bct_v, bct_t, otl_s, otl_n, List.cons_append, List.nil_append, List.getElem?_cons_zero, List.getElem?_cons_succ, ↓reduceIte]
theorem x204f {c : Nat} (hc : c ≤ 35) {z : Int32} (hz : z < nI 0 ∨ nI 3 < z) : am_x 204 [.ref x, .int (nI c), .int z] w = some (.inr (am_xn 1), am_jk w 1 6) := by
  simp only [bk204_0, bk204_4, bk204_10, bk204_14, bk204_20, bk204_23, bx204, x29 hc, x92n hz, Option.bind_some, bct_v, bct_t, otl_s, otl_n, List.cons_append, List.nil_append, List.getElem?_cons_zero, List.getElem?_cons_succ, ↓reduceIte]
end ASK
