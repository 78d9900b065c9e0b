section
/-! THE LAW, case by case. Laid by wip/gen/lawc.py. Mine. -/
theorem cmp_s (v : Int64) : lg_cmp v v = nI 0 := by
  unfold lg_cmp
  simp [Int64.lt_irrefl]
  try rfl
theorem m1_0 : ((-1 : Int32) = nI 0) = False := eq_false (by decide)
theorem cmp_i (a : Int) : compare a a = Ordering.eq := by
  show compareOfLessAndEq a a = _
  unfold compareOfLessAndEq
  rw [if_neg (Int.lt_irrefl a), if_pos rfl]
theorem ord_s (a : FP.Core.Datum) : FP.Core.order a a = none ∨ FP.Core.order a a = some .eq := by
  cases a with
  | nan => exact Or.inl rfl
  | inf s =>
    refine Or.inr ?_
    show some (compare _ _) = some _
    rw [cmp_i]
  | fin s c q =>
    refine Or.inr ?_
    show some (compare _ _) = some _
    rw [cmp_i]
theorem dcmp_s (v : UInt64) : Op.cmpValue (FP.dcmp v v) .l = -1 ∨ Op.cmpValue (FP.dcmp v v) .l = nI 0 := by
  have e : FP.dcmp v v = FP.Core.order (FP.Core.decode FP.Core.b64 v.toNat) (FP.Core.decode FP.Core.b64 v.toNat) := rfl
  rw [e]
  rcases ord_s (FP.Core.decode FP.Core.b64 v.toNat) with q | q
  · exact Or.inl (by rw [q]; rfl)
  · exact Or.inr (by rw [q]; rfl)
section LC
variable {w : am_Wd} {g : Nat → Nat} {x m u b L : Nat} {xs : Nat → Int32} {S : sS} {k s : Nat}

set_option maxHeartbeats 1000000 in
theorem lc_edge (h : LI b L xs x m u S w g k s) {i : Nat} (hi : i + 4 < L) : ∃ (S' : sS) (w' : am_Wd) (g' : Nat → Nat), am_run 269 172 [some (.ref b), some (.ref x), some (.ref m), some (.ref u), some (.int (nI i)), none, none, none] [] w = am_run 269 27 [some (.ref b), some (.ref x), some (.ref m), some (.ref u), some (.int (nI (i + 5))), none, none, none] [] w' ∧ LI b L xs x m u S' w' g' (k + 600) (s + 13200) := by
  have hb := h.2.2.2.2.2.1
  obtain ⟨kd, hr, cp, br, n, ws, mi, nd, dr, me, di, re⟩ := S
  have r1 := rd hb (i := i + 1) (by omega)
  have r2 := rd hb (i := i + 2) (by omega)
  have r3 := rd hb (i := i + 3) (by omega)
  have r4 := rd hb (i := i + 4) (by omega)
  obtain ⟨th, v, v', S', w2, w3, g3, hB, hv, a1, km, rr, a2, km3, ht, ho, h3⟩ := both (as := [.int (xs (i + 1)), .int (xs (i + 2)), .int (xs (i + 3)), .int (xs (i + 4))]) oI_f (wr_edge (xs (i + 1)) (xs (i + 2)) (xs (i + 3)) (xs (i + 4))) (fun ok => j_edge ok (xs (i + 1)) (xs (i + 2)) (xs (i + 3)) (xs (i + 4))) h
  have a1 : am_x 216 [.ref x, .int (xs (i + 1)), .int (xs (i + 2)), .int (xs (i + 3)), .int (xs (i + 4)), .ref u] w = _ := a1
  have t1 := rr (i + 1) (by omega)
  have t2 := rr (i + 2) (by omega)
  have t3 := rr (i + 3) (by omega)
  have t4 := rr (i + 4) (by omega)
  refine ⟨S', w3, g3, ?_, h3⟩
  have x266 : am_x 266 [.ref m] w3 = some (.inl (some (.int (nI th))), w3) := by
    simp only [bx266, bk266_0, ht, bk266_4, Option.bind_some, bct_v, bct_t, otl_s, otl_n, List.cons_append, List.nil_append, List.getElem?_cons_zero, List.getElem?_cons_succ, ↓reduceIte]
  by_cases z0 : th = 0
  · obtain rfl := hv z0
    obtain ⟨oa, od, os, hO⟩ := ho z0
    subst z0
    have gO : am_gf w3 u 9 0 = some (.long (Int32.toInt64 v')) := gfc hO
    simp only [r1, r2, r3, r4, t1, t2, t3, t4, a1, km, a2, km3, x266, not_true_eq_false, gO, cmp_s, bk269_172, bk269_179, bk269_185, bk269_191, bk269_197, bk269_201, bk269_210, bk269_216, bk269_222, bk269_228, bk269_231, bk269_237, bk269_244, bk269_242, bk269_262, bk269_249, bk269_253, bk269_260, bk269_2197, bk269_2191, nI_add, Nat.reduceAdd, Option.bind_some, bct_v, bct_t, otl_s, otl_n, List.cons_append, List.nil_append, List.getElem?_cons_zero, List.getElem?_cons_succ, ↓reduceIte]
  · have z1 : (nI th = nI 0) = False := by rw [nI_eqS (by omega) (by decide)]; exact eq_false z0
    simp only [r1, r2, r3, r4, t1, t2, t3, t4, a1, km, a2, km3, x266, not_true_eq_false, z1, not_false_eq_true, bk269_172, bk269_179, bk269_185, bk269_191, bk269_197, bk269_201, bk269_210, bk269_216, bk269_222, bk269_228, bk269_231, bk269_237, bk269_244, bk269_242, bk269_262, bk269_249, bk269_253, bk269_260, bk269_2197, bk269_2191, nI_add, Nat.reduceAdd, Option.bind_some, bct_v, bct_t, otl_s, otl_n, List.cons_append, List.nil_append, List.getElem?_cons_zero, List.getElem?_cons_succ, ↓reduceIte]

set_option maxHeartbeats 1000000 in
theorem lc_lay (h : LI b L xs x m u S w g k s) {i : Nat} (hi : i + 4 < L) : ∃ (S' : sS) (w' : am_Wd) (g' : Nat → Nat), am_run 269 265 [some (.ref b), some (.ref x), some (.ref m), some (.ref u), some (.int (nI i)), none, none, none] [] w = am_run 269 27 [some (.ref b), some (.ref x), some (.ref m), some (.ref u), some (.int (nI (i + 5))), none, none, none] [] w' ∧ LI b L xs x m u S' w' g' (k + 600) (s + 13200) := by
  have hb := h.2.2.2.2.2.1
  obtain ⟨kd, hr, cp, br, n, ws, mi, nd, dr, me, di, re⟩ := S
  have r1 := rd hb (i := i + 1) (by omega)
  obtain ⟨th, v, v', S', w2, w3, g3, hB, hv, a1, km, rr, a2, km3, ht, ho, h3⟩ := both (as := [.int (xs (i + 1))]) oI_f (wr_lay (xs (i + 1))) (fun ok => j_lay ok (xs (i + 1))) h
  have a1 : am_x 233 [.ref x, .int (xs (i + 1)), .ref u] w = _ := a1
  have t1 := rr (i + 1) (by omega)
  refine ⟨S', w3, g3, ?_, h3⟩
  have x266 : am_x 266 [.ref m] w3 = some (.inl (some (.int (nI th))), w3) := by
    simp only [bx266, bk266_0, ht, bk266_4, Option.bind_some, bct_v, bct_t, otl_s, otl_n, List.cons_append, List.nil_append, List.getElem?_cons_zero, List.getElem?_cons_succ, ↓reduceIte]
  by_cases z0 : th = 0
  · obtain rfl := hv z0
    obtain ⟨oa, od, os, hO⟩ := ho z0
    subst z0
    have gO : am_gf w3 u 9 0 = some (.long (Int32.toInt64 v')) := gfc hO
    simp only [r1, t1, a1, km, a2, km3, x266, not_true_eq_false, gO, cmp_s, bk269_265, bk269_272, bk269_276, bk269_285, bk269_288, bk269_294, bk269_301, bk269_299, bk269_319, bk269_306, bk269_310, bk269_317, bk269_2197, bk269_2191, nI_add, Nat.reduceAdd, Option.bind_some, bct_v, bct_t, otl_s, otl_n, List.cons_append, List.nil_append, List.getElem?_cons_zero, List.getElem?_cons_succ, ↓reduceIte]
  · have z1 : (nI th = nI 0) = False := by rw [nI_eqS (by omega) (by decide)]; exact eq_false z0
    simp only [r1, t1, a1, km, a2, km3, x266, not_true_eq_false, z1, not_false_eq_true, bk269_265, bk269_272, bk269_276, bk269_285, bk269_288, bk269_294, bk269_301, bk269_299, bk269_319, bk269_306, bk269_310, bk269_317, bk269_2197, bk269_2191, nI_add, Nat.reduceAdd, Option.bind_some, bct_v, bct_t, otl_s, otl_n, List.cons_append, List.nil_append, List.getElem?_cons_zero, List.getElem?_cons_succ, ↓reduceIte]

set_option maxHeartbeats 1000000 in
theorem lc_cell (h : LI b L xs x m u S w g k s) {i : Nat} (hi : i + 4 < L) : ∃ (S' : sS) (w' : am_Wd) (g' : Nat → Nat), am_run 269 322 [some (.ref b), some (.ref x), some (.ref m), some (.ref u), some (.int (nI i)), none, none, none] [] w = am_run 269 27 [some (.ref b), some (.ref x), some (.ref m), some (.ref u), some (.int (nI (i + 5))), none, none, none] [] w' ∧ LI b L xs x m u S' w' g' (k + 600) (s + 13200) := by
  have hb := h.2.2.2.2.2.1
  obtain ⟨kd, hr, cp, br, n, ws, mi, nd, dr, me, di, re⟩ := S
  have r1 := rd hb (i := i + 1) (by omega)
  have r2 := rd hb (i := i + 2) (by omega)
  have r3 := rd hb (i := i + 3) (by omega)
  by_cases e2 : xs (i + 2) = nI 0
  · by_cases e3 : xs (i + 3) = nI 0
    · obtain ⟨th, v, v', S', w2, w3, g3, hB, hv, a1, km, rr, a2, km3, ht, ho, h3⟩ := both (as := [.int (xs (i + 1)), .int (nI 0), .int (nI 0)]) oI_f (wr_cell (xs (i + 1)) (nI 0) (nI 0)) (fun ok => j_cell ok (xs (i + 1)) false false) h
      have a1 : am_x 147 [.ref x, .int (xs (i + 1)), .int (nI 0), .int (nI 0), .ref u] w = _ := a1
      have t1 := rr (i + 1) (by omega)
      have t2 := rr (i + 2) (by omega)
      have t3 := rr (i + 3) (by omega)
      refine ⟨S', w3, g3, ?_, h3⟩
      have x266 : am_x 266 [.ref m] w3 = some (.inl (some (.int (nI th))), w3) := by
        simp only [bx266, bk266_0, ht, bk266_4, Option.bind_some, bct_v, bct_t, otl_s, otl_n, List.cons_append, List.nil_append, List.getElem?_cons_zero, List.getElem?_cons_succ, ↓reduceIte]
      by_cases z0 : th = 0
      · obtain rfl := hv z0
        obtain ⟨oa, od, os, hO⟩ := ho z0
        subst z0
        have gO : am_gf w3 u 9 0 = some (.long (Int32.toInt64 v')) := gfc hO
        simp only [r1, r2, r3, t1, t2, t3, a1, km, a2, e2, e3, km3, x266, not_true_eq_false, gO, cmp_s, bk269_322, bk269_329, bk269_335, bk269_342, bk269_338, bk269_343, bk269_349, bk269_356, bk269_352, bk269_357, bk269_361, bk269_370, bk269_376, bk269_383, bk269_379, bk269_384, bk269_390, bk269_397, bk269_393, bk269_398, bk269_401, bk269_407, bk269_414, bk269_412, bk269_432, bk269_419, bk269_423, bk269_430, bk269_2197, bk269_2191, nI_add, Nat.reduceAdd, Option.bind_some, bct_v, bct_t, otl_s, otl_n, List.cons_append, List.nil_append, List.getElem?_cons_zero, List.getElem?_cons_succ, ↓reduceIte]
      · have z1 : (nI th = nI 0) = False := by rw [nI_eqS (by omega) (by decide)]; exact eq_false z0
        simp only [r1, r2, r3, t1, t2, t3, a1, km, a2, e2, e3, km3, x266, not_true_eq_false, z1, not_false_eq_true, bk269_322, bk269_329, bk269_335, bk269_342, bk269_338, bk269_343, bk269_349, bk269_356, bk269_352, bk269_357, bk269_361, bk269_370, bk269_376, bk269_383, bk269_379, bk269_384, bk269_390, bk269_397, bk269_393, bk269_398, bk269_401, bk269_407, bk269_414, bk269_412, bk269_432, bk269_419, bk269_423, bk269_430, bk269_2197, bk269_2191, nI_add, Nat.reduceAdd, Option.bind_some, bct_v, bct_t, otl_s, otl_n, List.cons_append, List.nil_append, List.getElem?_cons_zero, List.getElem?_cons_succ, ↓reduceIte]
    · obtain ⟨th, v, v', S', w2, w3, g3, hB, hv, a1, km, rr, a2, km3, ht, ho, h3⟩ := both (as := [.int (xs (i + 1)), .int (nI 0), .int (nI 1)]) oI_f (wr_cell (xs (i + 1)) (nI 0) (nI 1)) (fun ok => j_cell ok (xs (i + 1)) false true) h
      have a1 : am_x 147 [.ref x, .int (xs (i + 1)), .int (nI 0), .int (nI 1), .ref u] w = _ := a1
      have t1 := rr (i + 1) (by omega)
      have t2 := rr (i + 2) (by omega)
      have t3 := rr (i + 3) (by omega)
      refine ⟨S', w3, g3, ?_, h3⟩
      have x266 : am_x 266 [.ref m] w3 = some (.inl (some (.int (nI th))), w3) := by
        simp only [bx266, bk266_0, ht, bk266_4, Option.bind_some, bct_v, bct_t, otl_s, otl_n, List.cons_append, List.nil_append, List.getElem?_cons_zero, List.getElem?_cons_succ, ↓reduceIte]
      by_cases z0 : th = 0
      · obtain rfl := hv z0
        obtain ⟨oa, od, os, hO⟩ := ho z0
        subst z0
        have gO : am_gf w3 u 9 0 = some (.long (Int32.toInt64 v')) := gfc hO
        simp only [r1, r2, r3, t1, t2, t3, a1, km, a2, e2, e3, km3, x266, not_true_eq_false, gO, cmp_s, bk269_322, bk269_329, bk269_335, bk269_342, bk269_338, bk269_343, bk269_349, bk269_356, bk269_352, bk269_357, bk269_361, bk269_370, bk269_376, bk269_383, bk269_379, bk269_384, bk269_390, bk269_397, bk269_393, bk269_398, bk269_401, bk269_407, bk269_414, bk269_412, bk269_432, bk269_419, bk269_423, bk269_430, bk269_2197, bk269_2191, nI_add, Nat.reduceAdd, Option.bind_some, bct_v, bct_t, otl_s, otl_n, List.cons_append, List.nil_append, List.getElem?_cons_zero, List.getElem?_cons_succ, ↓reduceIte]
      · have z1 : (nI th = nI 0) = False := by rw [nI_eqS (by omega) (by decide)]; exact eq_false z0
        simp only [r1, r2, r3, t1, t2, t3, a1, km, a2, e2, e3, km3, x266, not_true_eq_false, z1, not_false_eq_true, bk269_322, bk269_329, bk269_335, bk269_342, bk269_338, bk269_343, bk269_349, bk269_356, bk269_352, bk269_357, bk269_361, bk269_370, bk269_376, bk269_383, bk269_379, bk269_384, bk269_390, bk269_397, bk269_393, bk269_398, bk269_401, bk269_407, bk269_414, bk269_412, bk269_432, bk269_419, bk269_423, bk269_430, bk269_2197, bk269_2191, nI_add, Nat.reduceAdd, Option.bind_some, bct_v, bct_t, otl_s, otl_n, List.cons_append, List.nil_append, List.getElem?_cons_zero, List.getElem?_cons_succ, ↓reduceIte]
  · by_cases e3 : xs (i + 3) = nI 0
    · obtain ⟨th, v, v', S', w2, w3, g3, hB, hv, a1, km, rr, a2, km3, ht, ho, h3⟩ := both (as := [.int (xs (i + 1)), .int (nI 1), .int (nI 0)]) oI_f (wr_cell (xs (i + 1)) (nI 1) (nI 0)) (fun ok => j_cell ok (xs (i + 1)) true false) h
      have a1 : am_x 147 [.ref x, .int (xs (i + 1)), .int (nI 1), .int (nI 0), .ref u] w = _ := a1
      have t1 := rr (i + 1) (by omega)
      have t2 := rr (i + 2) (by omega)
      have t3 := rr (i + 3) (by omega)
      refine ⟨S', w3, g3, ?_, h3⟩
      have x266 : am_x 266 [.ref m] w3 = some (.inl (some (.int (nI th))), w3) := by
        simp only [bx266, bk266_0, ht, bk266_4, Option.bind_some, bct_v, bct_t, otl_s, otl_n, List.cons_append, List.nil_append, List.getElem?_cons_zero, List.getElem?_cons_succ, ↓reduceIte]
      by_cases z0 : th = 0
      · obtain rfl := hv z0
        obtain ⟨oa, od, os, hO⟩ := ho z0
        subst z0
        have gO : am_gf w3 u 9 0 = some (.long (Int32.toInt64 v')) := gfc hO
        simp only [r1, r2, r3, t1, t2, t3, a1, km, a2, e2, e3, km3, x266, not_true_eq_false, gO, cmp_s, bk269_322, bk269_329, bk269_335, bk269_342, bk269_338, bk269_343, bk269_349, bk269_356, bk269_352, bk269_357, bk269_361, bk269_370, bk269_376, bk269_383, bk269_379, bk269_384, bk269_390, bk269_397, bk269_393, bk269_398, bk269_401, bk269_407, bk269_414, bk269_412, bk269_432, bk269_419, bk269_423, bk269_430, bk269_2197, bk269_2191, nI_add, Nat.reduceAdd, Option.bind_some, bct_v, bct_t, otl_s, otl_n, List.cons_append, List.nil_append, List.getElem?_cons_zero, List.getElem?_cons_succ, ↓reduceIte]
      · have z1 : (nI th = nI 0) = False := by rw [nI_eqS (by omega) (by decide)]; exact eq_false z0
        simp only [r1, r2, r3, t1, t2, t3, a1, km, a2, e2, e3, km3, x266, not_true_eq_false, z1, not_false_eq_true, bk269_322, bk269_329, bk269_335, bk269_342, bk269_338, bk269_343, bk269_349, bk269_356, bk269_352, bk269_357, bk269_361, bk269_370, bk269_376, bk269_383, bk269_379, bk269_384, bk269_390, bk269_397, bk269_393, bk269_398, bk269_401, bk269_407, bk269_414, bk269_412, bk269_432, bk269_419, bk269_423, bk269_430, bk269_2197, bk269_2191, nI_add, Nat.reduceAdd, Option.bind_some, bct_v, bct_t, otl_s, otl_n, List.cons_append, List.nil_append, List.getElem?_cons_zero, List.getElem?_cons_succ, ↓reduceIte]
    · obtain ⟨th, v, v', S', w2, w3, g3, hB, hv, a1, km, rr, a2, km3, ht, ho, h3⟩ := both (as := [.int (xs (i + 1)), .int (nI 1), .int (nI 1)]) oI_f (wr_cell (xs (i + 1)) (nI 1) (nI 1)) (fun ok => j_cell ok (xs (i + 1)) true true) h
      have a1 : am_x 147 [.ref x, .int (xs (i + 1)), .int (nI 1), .int (nI 1), .ref u] w = _ := a1
      have t1 := rr (i + 1) (by omega)
      have t2 := rr (i + 2) (by omega)
      have t3 := rr (i + 3) (by omega)
      refine ⟨S', w3, g3, ?_, h3⟩
      have x266 : am_x 266 [.ref m] w3 = some (.inl (some (.int (nI th))), w3) := by
        simp only [bx266, bk266_0, ht, bk266_4, Option.bind_some, bct_v, bct_t, otl_s, otl_n, List.cons_append, List.nil_append, List.getElem?_cons_zero, List.getElem?_cons_succ, ↓reduceIte]
      by_cases z0 : th = 0
      · obtain rfl := hv z0
        obtain ⟨oa, od, os, hO⟩ := ho z0
        subst z0
        have gO : am_gf w3 u 9 0 = some (.long (Int32.toInt64 v')) := gfc hO
        simp only [r1, r2, r3, t1, t2, t3, a1, km, a2, e2, e3, km3, x266, not_true_eq_false, gO, cmp_s, bk269_322, bk269_329, bk269_335, bk269_342, bk269_338, bk269_343, bk269_349, bk269_356, bk269_352, bk269_357, bk269_361, bk269_370, bk269_376, bk269_383, bk269_379, bk269_384, bk269_390, bk269_397, bk269_393, bk269_398, bk269_401, bk269_407, bk269_414, bk269_412, bk269_432, bk269_419, bk269_423, bk269_430, bk269_2197, bk269_2191, nI_add, Nat.reduceAdd, Option.bind_some, bct_v, bct_t, otl_s, otl_n, List.cons_append, List.nil_append, List.getElem?_cons_zero, List.getElem?_cons_succ, ↓reduceIte]
      · have z1 : (nI th = nI 0) = False := by rw [nI_eqS (by omega) (by decide)]; exact eq_false z0
        simp only [r1, r2, r3, t1, t2, t3, a1, km, a2, e2, e3, km3, x266, not_true_eq_false, z1, not_false_eq_true, bk269_322, bk269_329, bk269_335, bk269_342, bk269_338, bk269_343, bk269_349, bk269_356, bk269_352, bk269_357, bk269_361, bk269_370, bk269_376, bk269_383, bk269_379, bk269_384, bk269_390, bk269_397, bk269_393, bk269_398, bk269_401, bk269_407, bk269_414, bk269_412, bk269_432, bk269_419, bk269_423, bk269_430, bk269_2197, bk269_2191, nI_add, Nat.reduceAdd, Option.bind_some, bct_v, bct_t, otl_s, otl_n, List.cons_append, List.nil_append, List.getElem?_cons_zero, List.getElem?_cons_succ, ↓reduceIte]

set_option maxHeartbeats 1000000 in
theorem lc_walker (h : LI b L xs x m u S w g k s) {i : Nat} (hi : i + 4 < L) : ∃ (S' : sS) (w' : am_Wd) (g' : Nat → Nat), am_run 269 435 [some (.ref b), some (.ref x), some (.ref m), some (.ref u), some (.int (nI i)), none, none, none] [] w = am_run 269 27 [some (.ref b), some (.ref x), some (.ref m), some (.ref u), some (.int (nI (i + 5))), none, none, none] [] w' ∧ LI b L xs x m u S' w' g' (k + 600) (s + 13200) := by
  have hb := h.2.2.2.2.2.1
  obtain ⟨kd, hr, cp, br, n, ws, mi, nd, dr, me, di, re⟩ := S
  have r1 := rd hb (i := i + 1) (by omega)
  have r2 := rd hb (i := i + 2) (by omega)
  have r3 := rd hb (i := i + 3) (by omega)
  have r4 := rd hb (i := i + 4) (by omega)
  by_cases e4 : xs (i + 4) = nI 0
  · obtain ⟨th, v, v', S', w2, w3, g3, hB, hv, a1, km, rr, a2, km3, ht, ho, h3⟩ := both (as := [.int (xs (i + 1)), .int (xs (i + 2)), .int (xs (i + 3)), .int (nI 0)]) oI_f (wr_walker (xs (i + 1)) (xs (i + 2)) (xs (i + 3)) (nI 0)) (fun ok => j_walker ok (xs (i + 1)) (xs (i + 2)) (xs (i + 3)) false) h
    have a1 : am_x 217 [.ref x, .int (xs (i + 1)), .int (xs (i + 2)), .int (xs (i + 3)), .int (nI 0), .ref u] w = _ := a1
    have t1 := rr (i + 1) (by omega)
    have t2 := rr (i + 2) (by omega)
    have t3 := rr (i + 3) (by omega)
    have t4 := rr (i + 4) (by omega)
    refine ⟨S', w3, g3, ?_, h3⟩
    have x266 : am_x 266 [.ref m] w3 = some (.inl (some (.int (nI th))), w3) := by
      simp only [bx266, bk266_0, ht, bk266_4, Option.bind_some, bct_v, bct_t, otl_s, otl_n, List.cons_append, List.nil_append, List.getElem?_cons_zero, List.getElem?_cons_succ, ↓reduceIte]
    by_cases z0 : th = 0
    · obtain rfl := hv z0
      obtain ⟨oa, od, os, hO⟩ := ho z0
      subst z0
      have gO : am_gf w3 u 9 0 = some (.long (Int32.toInt64 v')) := gfc hO
      simp only [r1, r2, r3, r4, t1, t2, t3, t4, a1, km, a2, e4, km3, x266, not_true_eq_false, gO, cmp_s, bk269_435, bk269_442, bk269_448, bk269_454, bk269_460, bk269_467, bk269_463, bk269_468, bk269_472, bk269_481, bk269_487, bk269_493, bk269_499, bk269_506, bk269_502, bk269_507, bk269_510, bk269_516, bk269_523, bk269_521, bk269_541, bk269_528, bk269_532, bk269_539, bk269_2197, bk269_2191, nI_add, Nat.reduceAdd, Option.bind_some, bct_v, bct_t, otl_s, otl_n, List.cons_append, List.nil_append, List.getElem?_cons_zero, List.getElem?_cons_succ, ↓reduceIte]
    · have z1 : (nI th = nI 0) = False := by rw [nI_eqS (by omega) (by decide)]; exact eq_false z0
      simp only [r1, r2, r3, r4, t1, t2, t3, t4, a1, km, a2, e4, km3, x266, not_true_eq_false, z1, not_false_eq_true, bk269_435, bk269_442, bk269_448, bk269_454, bk269_460, bk269_467, bk269_463, bk269_468, bk269_472, bk269_481, bk269_487, bk269_493, bk269_499, bk269_506, bk269_502, bk269_507, bk269_510, bk269_516, bk269_523, bk269_521, bk269_541, bk269_528, bk269_532, bk269_539, bk269_2197, bk269_2191, nI_add, Nat.reduceAdd, Option.bind_some, bct_v, bct_t, otl_s, otl_n, List.cons_append, List.nil_append, List.getElem?_cons_zero, List.getElem?_cons_succ, ↓reduceIte]
  · obtain ⟨th, v, v', S', w2, w3, g3, hB, hv, a1, km, rr, a2, km3, ht, ho, h3⟩ := both (as := [.int (xs (i + 1)), .int (xs (i + 2)), .int (xs (i + 3)), .int (nI 1)]) oI_f (wr_walker (xs (i + 1)) (xs (i + 2)) (xs (i + 3)) (nI 1)) (fun ok => j_walker ok (xs (i + 1)) (xs (i + 2)) (xs (i + 3)) true) h
    have a1 : am_x 217 [.ref x, .int (xs (i + 1)), .int (xs (i + 2)), .int (xs (i + 3)), .int (nI 1), .ref u] w = _ := a1
    have t1 := rr (i + 1) (by omega)
    have t2 := rr (i + 2) (by omega)
    have t3 := rr (i + 3) (by omega)
    have t4 := rr (i + 4) (by omega)
    refine ⟨S', w3, g3, ?_, h3⟩
    have x266 : am_x 266 [.ref m] w3 = some (.inl (some (.int (nI th))), w3) := by
      simp only [bx266, bk266_0, ht, bk266_4, Option.bind_some, bct_v, bct_t, otl_s, otl_n, List.cons_append, List.nil_append, List.getElem?_cons_zero, List.getElem?_cons_succ, ↓reduceIte]
    by_cases z0 : th = 0
    · obtain rfl := hv z0
      obtain ⟨oa, od, os, hO⟩ := ho z0
      subst z0
      have gO : am_gf w3 u 9 0 = some (.long (Int32.toInt64 v')) := gfc hO
      simp only [r1, r2, r3, r4, t1, t2, t3, t4, a1, km, a2, e4, km3, x266, not_true_eq_false, gO, cmp_s, bk269_435, bk269_442, bk269_448, bk269_454, bk269_460, bk269_467, bk269_463, bk269_468, bk269_472, bk269_481, bk269_487, bk269_493, bk269_499, bk269_506, bk269_502, bk269_507, bk269_510, bk269_516, bk269_523, bk269_521, bk269_541, bk269_528, bk269_532, bk269_539, bk269_2197, bk269_2191, nI_add, Nat.reduceAdd, Option.bind_some, bct_v, bct_t, otl_s, otl_n, List.cons_append, List.nil_append, List.getElem?_cons_zero, List.getElem?_cons_succ, ↓reduceIte]
    · have z1 : (nI th = nI 0) = False := by rw [nI_eqS (by omega) (by decide)]; exact eq_false z0
      simp only [r1, r2, r3, r4, t1, t2, t3, t4, a1, km, a2, e4, km3, x266, not_true_eq_false, z1, not_false_eq_true, bk269_435, bk269_442, bk269_448, bk269_454, bk269_460, bk269_467, bk269_463, bk269_468, bk269_472, bk269_481, bk269_487, bk269_493, bk269_499, bk269_506, bk269_502, bk269_507, bk269_510, bk269_516, bk269_523, bk269_521, bk269_541, bk269_528, bk269_532, bk269_539, bk269_2197, bk269_2191, nI_add, Nat.reduceAdd, Option.bind_some, bct_v, bct_t, otl_s, otl_n, List.cons_append, List.nil_append, List.getElem?_cons_zero, List.getElem?_cons_succ, ↓reduceIte]

set_option maxHeartbeats 1000000 in
theorem lc_forward (h : LI b L xs x m u S w g k s) {i : Nat} (hi : i + 4 < L) : ∃ (S' : sS) (w' : am_Wd) (g' : Nat → Nat), am_run 269 544 [some (.ref b), some (.ref x), some (.ref m), some (.ref u), some (.int (nI i)), none, none, none] [] w = am_run 269 27 [some (.ref b), some (.ref x), some (.ref m), some (.ref u), some (.int (nI (i + 5))), none, none, none] [] w' ∧ LI b L xs x m u S' w' g' (k + 600) (s + 13200) := by
  have hb := h.2.2.2.2.2.1
  obtain ⟨kd, hr, cp, br, n, ws, mi, nd, dr, me, di, re⟩ := S
  have r1 := rd hb (i := i + 1) (by omega)
  have r2 := rd hb (i := i + 2) (by omega)
  by_cases e2 : xs (i + 2) = nI 0
  · obtain ⟨th, v, v', S', w2, w3, g3, hB, hv, a1, km, rr, a2, km3, ht, ho, h3⟩ := both (as := [.int (xs (i + 1)), .int (nI 0)]) oZ_f (wr_forward (xs (i + 1)) (nI 0)) (fun ok => j_forward ok (xs (i + 1)) false) h
    have a1 : am_x 253 [.ref x, .int (xs (i + 1)), .int (nI 0), .ref u] w = _ := a1
    have t1 := rr (i + 1) (by omega)
    have t2 := rr (i + 2) (by omega)
    refine ⟨S', w3, g3, ?_, h3⟩
    have x266 : am_x 266 [.ref m] w3 = some (.inl (some (.int (nI th))), w3) := by
      simp only [bx266, bk266_0, ht, bk266_4, Option.bind_some, bct_v, bct_t, otl_s, otl_n, List.cons_append, List.nil_append, List.getElem?_cons_zero, List.getElem?_cons_succ, ↓reduceIte]
    by_cases z0 : th = 0
    · obtain rfl := hv z0
      obtain ⟨oa, od, os, hO⟩ := ho z0
      subst z0
      have gO : am_gf w3 u 9 0 = some (.long (if v' = nI 0 then lN 0 else lN 1)) := gfc hO
      by_cases q : v' = nI 0
      · rw [if_pos q] at gO
        simp only [r1, r2, t1, t2, a1, km, a2, e2, km3, x266, not_true_eq_false, gO, q, cmp_s, bk269_544, bk269_551, bk269_557, bk269_564, bk269_560, bk269_565, bk269_569, bk269_578, bk269_584, bk269_591, bk269_587, bk269_592, bk269_595, bk269_601, bk269_608, bk269_606, bk269_633, bk269_613, bk269_617, bk269_626, bk269_622, bk269_627, bk269_631, bk269_2197, bk269_2191, nI_add, Nat.reduceAdd, Option.bind_some, bct_v, bct_t, otl_s, otl_n, List.cons_append, List.nil_append, List.getElem?_cons_zero, List.getElem?_cons_succ, ↓reduceIte]
      · rw [if_neg q] at gO
        simp only [r1, r2, t1, t2, a1, km, a2, e2, km3, x266, not_true_eq_false, gO, q, cmp_s, bk269_544, bk269_551, bk269_557, bk269_564, bk269_560, bk269_565, bk269_569, bk269_578, bk269_584, bk269_591, bk269_587, bk269_592, bk269_595, bk269_601, bk269_608, bk269_606, bk269_633, bk269_613, bk269_617, bk269_626, bk269_622, bk269_627, bk269_631, bk269_2197, bk269_2191, nI_add, Nat.reduceAdd, Option.bind_some, bct_v, bct_t, otl_s, otl_n, List.cons_append, List.nil_append, List.getElem?_cons_zero, List.getElem?_cons_succ, ↓reduceIte]
    · have z1 : (nI th = nI 0) = False := by rw [nI_eqS (by omega) (by decide)]; exact eq_false z0
      simp only [r1, r2, t1, t2, a1, km, a2, e2, km3, x266, not_true_eq_false, z1, not_false_eq_true, bk269_544, bk269_551, bk269_557, bk269_564, bk269_560, bk269_565, bk269_569, bk269_578, bk269_584, bk269_591, bk269_587, bk269_592, bk269_595, bk269_601, bk269_608, bk269_606, bk269_633, bk269_613, bk269_617, bk269_626, bk269_622, bk269_627, bk269_631, bk269_2197, bk269_2191, nI_add, Nat.reduceAdd, Option.bind_some, bct_v, bct_t, otl_s, otl_n, List.cons_append, List.nil_append, List.getElem?_cons_zero, List.getElem?_cons_succ, ↓reduceIte]
  · obtain ⟨th, v, v', S', w2, w3, g3, hB, hv, a1, km, rr, a2, km3, ht, ho, h3⟩ := both (as := [.int (xs (i + 1)), .int (nI 1)]) oZ_f (wr_forward (xs (i + 1)) (nI 1)) (fun ok => j_forward ok (xs (i + 1)) true) h
    have a1 : am_x 253 [.ref x, .int (xs (i + 1)), .int (nI 1), .ref u] w = _ := a1
    have t1 := rr (i + 1) (by omega)
    have t2 := rr (i + 2) (by omega)
    refine ⟨S', w3, g3, ?_, h3⟩
    have x266 : am_x 266 [.ref m] w3 = some (.inl (some (.int (nI th))), w3) := by
      simp only [bx266, bk266_0, ht, bk266_4, Option.bind_some, bct_v, bct_t, otl_s, otl_n, List.cons_append, List.nil_append, List.getElem?_cons_zero, List.getElem?_cons_succ, ↓reduceIte]
    by_cases z0 : th = 0
    · obtain rfl := hv z0
      obtain ⟨oa, od, os, hO⟩ := ho z0
      subst z0
      have gO : am_gf w3 u 9 0 = some (.long (if v' = nI 0 then lN 0 else lN 1)) := gfc hO
      by_cases q : v' = nI 0
      · rw [if_pos q] at gO
        simp only [r1, r2, t1, t2, a1, km, a2, e2, km3, x266, not_true_eq_false, gO, q, cmp_s, bk269_544, bk269_551, bk269_557, bk269_564, bk269_560, bk269_565, bk269_569, bk269_578, bk269_584, bk269_591, bk269_587, bk269_592, bk269_595, bk269_601, bk269_608, bk269_606, bk269_633, bk269_613, bk269_617, bk269_626, bk269_622, bk269_627, bk269_631, bk269_2197, bk269_2191, nI_add, Nat.reduceAdd, Option.bind_some, bct_v, bct_t, otl_s, otl_n, List.cons_append, List.nil_append, List.getElem?_cons_zero, List.getElem?_cons_succ, ↓reduceIte]
      · rw [if_neg q] at gO
        simp only [r1, r2, t1, t2, a1, km, a2, e2, km3, x266, not_true_eq_false, gO, q, cmp_s, bk269_544, bk269_551, bk269_557, bk269_564, bk269_560, bk269_565, bk269_569, bk269_578, bk269_584, bk269_591, bk269_587, bk269_592, bk269_595, bk269_601, bk269_608, bk269_606, bk269_633, bk269_613, bk269_617, bk269_626, bk269_622, bk269_627, bk269_631, bk269_2197, bk269_2191, nI_add, Nat.reduceAdd, Option.bind_some, bct_v, bct_t, otl_s, otl_n, List.cons_append, List.nil_append, List.getElem?_cons_zero, List.getElem?_cons_succ, ↓reduceIte]
    · have z1 : (nI th = nI 0) = False := by rw [nI_eqS (by omega) (by decide)]; exact eq_false z0
      simp only [r1, r2, t1, t2, a1, km, a2, e2, km3, x266, not_true_eq_false, z1, not_false_eq_true, bk269_544, bk269_551, bk269_557, bk269_564, bk269_560, bk269_565, bk269_569, bk269_578, bk269_584, bk269_591, bk269_587, bk269_592, bk269_595, bk269_601, bk269_608, bk269_606, bk269_633, bk269_613, bk269_617, bk269_626, bk269_622, bk269_627, bk269_631, bk269_2197, bk269_2191, nI_add, Nat.reduceAdd, Option.bind_some, bct_v, bct_t, otl_s, otl_n, List.cons_append, List.nil_append, List.getElem?_cons_zero, List.getElem?_cons_succ, ↓reduceIte]

set_option maxHeartbeats 1000000 in
theorem lc_turn (h : LI b L xs x m u S w g k s) {i : Nat} (hi : i + 4 < L) : ∃ (S' : sS) (w' : am_Wd) (g' : Nat → Nat), am_run 269 636 [some (.ref b), some (.ref x), some (.ref m), some (.ref u), some (.int (nI i)), none, none, none] [] w = am_run 269 27 [some (.ref b), some (.ref x), some (.ref m), some (.ref u), some (.int (nI (i + 5))), none, none, none] [] w' ∧ LI b L xs x m u S' w' g' (k + 600) (s + 13200) := by
  have hb := h.2.2.2.2.2.1
  obtain ⟨kd, hr, cp, br, n, ws, mi, nd, dr, me, di, re⟩ := S
  have r1 := rd hb (i := i + 1) (by omega)
  have r2 := rd hb (i := i + 2) (by omega)
  have r3 := rd hb (i := i + 3) (by omega)
  by_cases e2 : xs (i + 2) = nI 0
  · by_cases e3 : xs (i + 3) = nI 0
    · obtain ⟨th, v, v', S', w2, w3, g3, hB, hv, a1, km, rr, a2, km3, ht, ho, h3⟩ := both (as := [.int (xs (i + 1)), .int (nI 0), .int (nI 0)]) oI_f (wr_turn (xs (i + 1)) (nI 0) (nI 0)) (fun ok => j_turn ok (xs (i + 1)) false false) h
      have a1 : am_x 254 [.ref x, .int (xs (i + 1)), .int (nI 0), .int (nI 0), .ref u] w = _ := a1
      have t1 := rr (i + 1) (by omega)
      have t2 := rr (i + 2) (by omega)
      have t3 := rr (i + 3) (by omega)
      refine ⟨S', w3, g3, ?_, h3⟩
      have x266 : am_x 266 [.ref m] w3 = some (.inl (some (.int (nI th))), w3) := by
        simp only [bx266, bk266_0, ht, bk266_4, Option.bind_some, bct_v, bct_t, otl_s, otl_n, List.cons_append, List.nil_append, List.getElem?_cons_zero, List.getElem?_cons_succ, ↓reduceIte]
      by_cases z0 : th = 0
      · obtain rfl := hv z0
        obtain ⟨oa, od, os, hO⟩ := ho z0
        subst z0
        have gO : am_gf w3 u 9 0 = some (.long (Int32.toInt64 v')) := gfc hO
        simp only [r1, r2, r3, t1, t2, t3, a1, km, a2, e2, e3, km3, x266, not_true_eq_false, gO, cmp_s, bk269_636, bk269_643, bk269_649, bk269_656, bk269_652, bk269_657, bk269_663, bk269_670, bk269_666, bk269_671, bk269_675, bk269_684, bk269_690, bk269_697, bk269_693, bk269_698, bk269_704, bk269_711, bk269_707, bk269_712, bk269_715, bk269_721, bk269_728, bk269_726, bk269_746, bk269_733, bk269_737, bk269_744, bk269_2197, bk269_2191, nI_add, Nat.reduceAdd, Option.bind_some, bct_v, bct_t, otl_s, otl_n, List.cons_append, List.nil_append, List.getElem?_cons_zero, List.getElem?_cons_succ, ↓reduceIte]
      · have z1 : (nI th = nI 0) = False := by rw [nI_eqS (by omega) (by decide)]; exact eq_false z0
        simp only [r1, r2, r3, t1, t2, t3, a1, km, a2, e2, e3, km3, x266, not_true_eq_false, z1, not_false_eq_true, bk269_636, bk269_643, bk269_649, bk269_656, bk269_652, bk269_657, bk269_663, bk269_670, bk269_666, bk269_671, bk269_675, bk269_684, bk269_690, bk269_697, bk269_693, bk269_698, bk269_704, bk269_711, bk269_707, bk269_712, bk269_715, bk269_721, bk269_728, bk269_726, bk269_746, bk269_733, bk269_737, bk269_744, bk269_2197, bk269_2191, nI_add, Nat.reduceAdd, Option.bind_some, bct_v, bct_t, otl_s, otl_n, List.cons_append, List.nil_append, List.getElem?_cons_zero, List.getElem?_cons_succ, ↓reduceIte]
    · obtain ⟨th, v, v', S', w2, w3, g3, hB, hv, a1, km, rr, a2, km3, ht, ho, h3⟩ := both (as := [.int (xs (i + 1)), .int (nI 0), .int (nI 1)]) oI_f (wr_turn (xs (i + 1)) (nI 0) (nI 1)) (fun ok => j_turn ok (xs (i + 1)) false true) h
      have a1 : am_x 254 [.ref x, .int (xs (i + 1)), .int (nI 0), .int (nI 1), .ref u] w = _ := a1
      have t1 := rr (i + 1) (by omega)
      have t2 := rr (i + 2) (by omega)
      have t3 := rr (i + 3) (by omega)
      refine ⟨S', w3, g3, ?_, h3⟩
      have x266 : am_x 266 [.ref m] w3 = some (.inl (some (.int (nI th))), w3) := by
        simp only [bx266, bk266_0, ht, bk266_4, Option.bind_some, bct_v, bct_t, otl_s, otl_n, List.cons_append, List.nil_append, List.getElem?_cons_zero, List.getElem?_cons_succ, ↓reduceIte]
      by_cases z0 : th = 0
      · obtain rfl := hv z0
        obtain ⟨oa, od, os, hO⟩ := ho z0
        subst z0
        have gO : am_gf w3 u 9 0 = some (.long (Int32.toInt64 v')) := gfc hO
        simp only [r1, r2, r3, t1, t2, t3, a1, km, a2, e2, e3, km3, x266, not_true_eq_false, gO, cmp_s, bk269_636, bk269_643, bk269_649, bk269_656, bk269_652, bk269_657, bk269_663, bk269_670, bk269_666, bk269_671, bk269_675, bk269_684, bk269_690, bk269_697, bk269_693, bk269_698, bk269_704, bk269_711, bk269_707, bk269_712, bk269_715, bk269_721, bk269_728, bk269_726, bk269_746, bk269_733, bk269_737, bk269_744, bk269_2197, bk269_2191, nI_add, Nat.reduceAdd, Option.bind_some, bct_v, bct_t, otl_s, otl_n, List.cons_append, List.nil_append, List.getElem?_cons_zero, List.getElem?_cons_succ, ↓reduceIte]
      · have z1 : (nI th = nI 0) = False := by rw [nI_eqS (by omega) (by decide)]; exact eq_false z0
        simp only [r1, r2, r3, t1, t2, t3, a1, km, a2, e2, e3, km3, x266, not_true_eq_false, z1, not_false_eq_true, bk269_636, bk269_643, bk269_649, bk269_656, bk269_652, bk269_657, bk269_663, bk269_670, bk269_666, bk269_671, bk269_675, bk269_684, bk269_690, bk269_697, bk269_693, bk269_698, bk269_704, bk269_711, bk269_707, bk269_712, bk269_715, bk269_721, bk269_728, bk269_726, bk269_746, bk269_733, bk269_737, bk269_744, bk269_2197, bk269_2191, nI_add, Nat.reduceAdd, Option.bind_some, bct_v, bct_t, otl_s, otl_n, List.cons_append, List.nil_append, List.getElem?_cons_zero, List.getElem?_cons_succ, ↓reduceIte]
  · by_cases e3 : xs (i + 3) = nI 0
    · obtain ⟨th, v, v', S', w2, w3, g3, hB, hv, a1, km, rr, a2, km3, ht, ho, h3⟩ := both (as := [.int (xs (i + 1)), .int (nI 1), .int (nI 0)]) oI_f (wr_turn (xs (i + 1)) (nI 1) (nI 0)) (fun ok => j_turn ok (xs (i + 1)) true false) h
      have a1 : am_x 254 [.ref x, .int (xs (i + 1)), .int (nI 1), .int (nI 0), .ref u] w = _ := a1
      have t1 := rr (i + 1) (by omega)
      have t2 := rr (i + 2) (by omega)
      have t3 := rr (i + 3) (by omega)
      refine ⟨S', w3, g3, ?_, h3⟩
      have x266 : am_x 266 [.ref m] w3 = some (.inl (some (.int (nI th))), w3) := by
        simp only [bx266, bk266_0, ht, bk266_4, Option.bind_some, bct_v, bct_t, otl_s, otl_n, List.cons_append, List.nil_append, List.getElem?_cons_zero, List.getElem?_cons_succ, ↓reduceIte]
      by_cases z0 : th = 0
      · obtain rfl := hv z0
        obtain ⟨oa, od, os, hO⟩ := ho z0
        subst z0
        have gO : am_gf w3 u 9 0 = some (.long (Int32.toInt64 v')) := gfc hO
        simp only [r1, r2, r3, t1, t2, t3, a1, km, a2, e2, e3, km3, x266, not_true_eq_false, gO, cmp_s, bk269_636, bk269_643, bk269_649, bk269_656, bk269_652, bk269_657, bk269_663, bk269_670, bk269_666, bk269_671, bk269_675, bk269_684, bk269_690, bk269_697, bk269_693, bk269_698, bk269_704, bk269_711, bk269_707, bk269_712, bk269_715, bk269_721, bk269_728, bk269_726, bk269_746, bk269_733, bk269_737, bk269_744, bk269_2197, bk269_2191, nI_add, Nat.reduceAdd, Option.bind_some, bct_v, bct_t, otl_s, otl_n, List.cons_append, List.nil_append, List.getElem?_cons_zero, List.getElem?_cons_succ, ↓reduceIte]
      · have z1 : (nI th = nI 0) = False := by rw [nI_eqS (by omega) (by decide)]; exact eq_false z0
        simp only [r1, r2, r3, t1, t2, t3, a1, km, a2, e2, e3, km3, x266, not_true_eq_false, z1, not_false_eq_true, bk269_636, bk269_643, bk269_649, bk269_656, bk269_652, bk269_657, bk269_663, bk269_670, bk269_666, bk269_671, bk269_675, bk269_684, bk269_690, bk269_697, bk269_693, bk269_698, bk269_704, bk269_711, bk269_707, bk269_712, bk269_715, bk269_721, bk269_728, bk269_726, bk269_746, bk269_733, bk269_737, bk269_744, bk269_2197, bk269_2191, nI_add, Nat.reduceAdd, Option.bind_some, bct_v, bct_t, otl_s, otl_n, List.cons_append, List.nil_append, List.getElem?_cons_zero, List.getElem?_cons_succ, ↓reduceIte]
    · obtain ⟨th, v, v', S', w2, w3, g3, hB, hv, a1, km, rr, a2, km3, ht, ho, h3⟩ := both (as := [.int (xs (i + 1)), .int (nI 1), .int (nI 1)]) oI_f (wr_turn (xs (i + 1)) (nI 1) (nI 1)) (fun ok => j_turn ok (xs (i + 1)) true true) h
      have a1 : am_x 254 [.ref x, .int (xs (i + 1)), .int (nI 1), .int (nI 1), .ref u] w = _ := a1
      have t1 := rr (i + 1) (by omega)
      have t2 := rr (i + 2) (by omega)
      have t3 := rr (i + 3) (by omega)
      refine ⟨S', w3, g3, ?_, h3⟩
      have x266 : am_x 266 [.ref m] w3 = some (.inl (some (.int (nI th))), w3) := by
        simp only [bx266, bk266_0, ht, bk266_4, Option.bind_some, bct_v, bct_t, otl_s, otl_n, List.cons_append, List.nil_append, List.getElem?_cons_zero, List.getElem?_cons_succ, ↓reduceIte]
      by_cases z0 : th = 0
      · obtain rfl := hv z0
        obtain ⟨oa, od, os, hO⟩ := ho z0
        subst z0
        have gO : am_gf w3 u 9 0 = some (.long (Int32.toInt64 v')) := gfc hO
        simp only [r1, r2, r3, t1, t2, t3, a1, km, a2, e2, e3, km3, x266, not_true_eq_false, gO, cmp_s, bk269_636, bk269_643, bk269_649, bk269_656, bk269_652, bk269_657, bk269_663, bk269_670, bk269_666, bk269_671, bk269_675, bk269_684, bk269_690, bk269_697, bk269_693, bk269_698, bk269_704, bk269_711, bk269_707, bk269_712, bk269_715, bk269_721, bk269_728, bk269_726, bk269_746, bk269_733, bk269_737, bk269_744, bk269_2197, bk269_2191, nI_add, Nat.reduceAdd, Option.bind_some, bct_v, bct_t, otl_s, otl_n, List.cons_append, List.nil_append, List.getElem?_cons_zero, List.getElem?_cons_succ, ↓reduceIte]
      · have z1 : (nI th = nI 0) = False := by rw [nI_eqS (by omega) (by decide)]; exact eq_false z0
        simp only [r1, r2, r3, t1, t2, t3, a1, km, a2, e2, e3, km3, x266, not_true_eq_false, z1, not_false_eq_true, bk269_636, bk269_643, bk269_649, bk269_656, bk269_652, bk269_657, bk269_663, bk269_670, bk269_666, bk269_671, bk269_675, bk269_684, bk269_690, bk269_697, bk269_693, bk269_698, bk269_704, bk269_711, bk269_707, bk269_712, bk269_715, bk269_721, bk269_728, bk269_726, bk269_746, bk269_733, bk269_737, bk269_744, bk269_2197, bk269_2191, nI_add, Nat.reduceAdd, Option.bind_some, bct_v, bct_t, otl_s, otl_n, List.cons_append, List.nil_append, List.getElem?_cons_zero, List.getElem?_cons_succ, ↓reduceIte]

set_option maxHeartbeats 1000000 in
theorem lc_feel (h : LI b L xs x m u S w g k s) {i : Nat} (hi : i + 4 < L) : ∃ (S' : sS) (w' : am_Wd) (g' : Nat → Nat), am_run 269 749 [some (.ref b), some (.ref x), some (.ref m), some (.ref u), some (.int (nI i)), none, none, none] [] w = am_run 269 27 [some (.ref b), some (.ref x), some (.ref m), some (.ref u), some (.int (nI (i + 5))), none, none, none] [] w' ∧ LI b L xs x m u S' w' g' (k + 600) (s + 13200) := by
  have hb := h.2.2.2.2.2.1
  obtain ⟨kd, hr, cp, br, n, ws, mi, nd, dr, me, di, re⟩ := S
  have r1 := rd hb (i := i + 1) (by omega)
  have r2 := rd hb (i := i + 2) (by omega)
  by_cases e2 : xs (i + 2) = nI 0
  · obtain ⟨th, v, v', S', w2, w3, g3, hB, hv, a1, km, rr, a2, km3, ht, ho, h3⟩ := both (as := [.int (xs (i + 1)), .int (nI 0)]) oI_f (wr_feel (xs (i + 1)) (nI 0)) (fun ok => j_feel ok (xs (i + 1)) false) h
    have a1 : am_x 255 [.ref x, .int (xs (i + 1)), .int (nI 0), .ref u] w = _ := a1
    have t1 := rr (i + 1) (by omega)
    have t2 := rr (i + 2) (by omega)
    refine ⟨S', w3, g3, ?_, h3⟩
    have x266 : am_x 266 [.ref m] w3 = some (.inl (some (.int (nI th))), w3) := by
      simp only [bx266, bk266_0, ht, bk266_4, Option.bind_some, bct_v, bct_t, otl_s, otl_n, List.cons_append, List.nil_append, List.getElem?_cons_zero, List.getElem?_cons_succ, ↓reduceIte]
    by_cases z0 : th = 0
    · obtain rfl := hv z0
      obtain ⟨oa, od, os, hO⟩ := ho z0
      subst z0
      have gO : am_gf w3 u 9 0 = some (.long (Int32.toInt64 v')) := gfc hO
      simp only [r1, r2, t1, t2, a1, km, a2, e2, km3, x266, not_true_eq_false, gO, cmp_s, bk269_749, bk269_756, bk269_762, bk269_769, bk269_765, bk269_770, bk269_774, bk269_783, bk269_789, bk269_796, bk269_792, bk269_797, bk269_800, bk269_806, bk269_813, bk269_811, bk269_831, bk269_818, bk269_822, bk269_829, bk269_2197, bk269_2191, nI_add, Nat.reduceAdd, Option.bind_some, bct_v, bct_t, otl_s, otl_n, List.cons_append, List.nil_append, List.getElem?_cons_zero, List.getElem?_cons_succ, ↓reduceIte]
    · have z1 : (nI th = nI 0) = False := by rw [nI_eqS (by omega) (by decide)]; exact eq_false z0
      simp only [r1, r2, t1, t2, a1, km, a2, e2, km3, x266, not_true_eq_false, z1, not_false_eq_true, bk269_749, bk269_756, bk269_762, bk269_769, bk269_765, bk269_770, bk269_774, bk269_783, bk269_789, bk269_796, bk269_792, bk269_797, bk269_800, bk269_806, bk269_813, bk269_811, bk269_831, bk269_818, bk269_822, bk269_829, bk269_2197, bk269_2191, nI_add, Nat.reduceAdd, Option.bind_some, bct_v, bct_t, otl_s, otl_n, List.cons_append, List.nil_append, List.getElem?_cons_zero, List.getElem?_cons_succ, ↓reduceIte]
  · obtain ⟨th, v, v', S', w2, w3, g3, hB, hv, a1, km, rr, a2, km3, ht, ho, h3⟩ := both (as := [.int (xs (i + 1)), .int (nI 1)]) oI_f (wr_feel (xs (i + 1)) (nI 1)) (fun ok => j_feel ok (xs (i + 1)) true) h
    have a1 : am_x 255 [.ref x, .int (xs (i + 1)), .int (nI 1), .ref u] w = _ := a1
    have t1 := rr (i + 1) (by omega)
    have t2 := rr (i + 2) (by omega)
    refine ⟨S', w3, g3, ?_, h3⟩
    have x266 : am_x 266 [.ref m] w3 = some (.inl (some (.int (nI th))), w3) := by
      simp only [bx266, bk266_0, ht, bk266_4, Option.bind_some, bct_v, bct_t, otl_s, otl_n, List.cons_append, List.nil_append, List.getElem?_cons_zero, List.getElem?_cons_succ, ↓reduceIte]
    by_cases z0 : th = 0
    · obtain rfl := hv z0
      obtain ⟨oa, od, os, hO⟩ := ho z0
      subst z0
      have gO : am_gf w3 u 9 0 = some (.long (Int32.toInt64 v')) := gfc hO
      simp only [r1, r2, t1, t2, a1, km, a2, e2, km3, x266, not_true_eq_false, gO, cmp_s, bk269_749, bk269_756, bk269_762, bk269_769, bk269_765, bk269_770, bk269_774, bk269_783, bk269_789, bk269_796, bk269_792, bk269_797, bk269_800, bk269_806, bk269_813, bk269_811, bk269_831, bk269_818, bk269_822, bk269_829, bk269_2197, bk269_2191, nI_add, Nat.reduceAdd, Option.bind_some, bct_v, bct_t, otl_s, otl_n, List.cons_append, List.nil_append, List.getElem?_cons_zero, List.getElem?_cons_succ, ↓reduceIte]
    · have z1 : (nI th = nI 0) = False := by rw [nI_eqS (by omega) (by decide)]; exact eq_false z0
      simp only [r1, r2, t1, t2, a1, km, a2, e2, km3, x266, not_true_eq_false, z1, not_false_eq_true, bk269_749, bk269_756, bk269_762, bk269_769, bk269_765, bk269_770, bk269_774, bk269_783, bk269_789, bk269_796, bk269_792, bk269_797, bk269_800, bk269_806, bk269_813, bk269_811, bk269_831, bk269_818, bk269_822, bk269_829, bk269_2197, bk269_2191, nI_add, Nat.reduceAdd, Option.bind_some, bct_v, bct_t, otl_s, otl_n, List.cons_append, List.nil_append, List.getElem?_cons_zero, List.getElem?_cons_succ, ↓reduceIte]

set_option maxHeartbeats 1000000 in
theorem lc_listen (h : LI b L xs x m u S w g k s) {i : Nat} (hi : i + 4 < L) : ∃ (S' : sS) (w' : am_Wd) (g' : Nat → Nat), am_run 269 834 [some (.ref b), some (.ref x), some (.ref m), some (.ref u), some (.int (nI i)), none, none, none] [] w = am_run 269 27 [some (.ref b), some (.ref x), some (.ref m), some (.ref u), some (.int (nI (i + 5))), none, none, none] [] w' ∧ LI b L xs x m u S' w' g' (k + 600) (s + 13200) := by
  have hb := h.2.2.2.2.2.1
  obtain ⟨kd, hr, cp, br, n, ws, mi, nd, dr, me, di, re⟩ := S
  have r1 := rd hb (i := i + 1) (by omega)
  have r2 := rd hb (i := i + 2) (by omega)
  by_cases e2 : xs (i + 2) = nI 0
  · obtain ⟨th, v, v', S', w2, w3, g3, hB, hv, a1, km, rr, a2, km3, ht, ho, h3⟩ := both (as := [.int (xs (i + 1)), .int (nI 0)]) oI_f (wr_listen (xs (i + 1)) (nI 0)) (fun ok => j_listen ok (xs (i + 1)) false) h
    have a1 : am_x 256 [.ref x, .int (xs (i + 1)), .int (nI 0), .ref u] w = _ := a1
    have t1 := rr (i + 1) (by omega)
    have t2 := rr (i + 2) (by omega)
    refine ⟨S', w3, g3, ?_, h3⟩
    have x266 : am_x 266 [.ref m] w3 = some (.inl (some (.int (nI th))), w3) := by
      simp only [bx266, bk266_0, ht, bk266_4, Option.bind_some, bct_v, bct_t, otl_s, otl_n, List.cons_append, List.nil_append, List.getElem?_cons_zero, List.getElem?_cons_succ, ↓reduceIte]
    by_cases z0 : th = 0
    · obtain rfl := hv z0
      obtain ⟨oa, od, os, hO⟩ := ho z0
      subst z0
      have gO : am_gf w3 u 9 0 = some (.long (Int32.toInt64 v')) := gfc hO
      simp only [r1, r2, t1, t2, a1, km, a2, e2, km3, x266, not_true_eq_false, gO, cmp_s, bk269_834, bk269_841, bk269_847, bk269_854, bk269_850, bk269_855, bk269_859, bk269_868, bk269_874, bk269_881, bk269_877, bk269_882, bk269_885, bk269_891, bk269_898, bk269_896, bk269_916, bk269_903, bk269_907, bk269_914, bk269_2197, bk269_2191, nI_add, Nat.reduceAdd, Option.bind_some, bct_v, bct_t, otl_s, otl_n, List.cons_append, List.nil_append, List.getElem?_cons_zero, List.getElem?_cons_succ, ↓reduceIte]
    · have z1 : (nI th = nI 0) = False := by rw [nI_eqS (by omega) (by decide)]; exact eq_false z0
      simp only [r1, r2, t1, t2, a1, km, a2, e2, km3, x266, not_true_eq_false, z1, not_false_eq_true, bk269_834, bk269_841, bk269_847, bk269_854, bk269_850, bk269_855, bk269_859, bk269_868, bk269_874, bk269_881, bk269_877, bk269_882, bk269_885, bk269_891, bk269_898, bk269_896, bk269_916, bk269_903, bk269_907, bk269_914, bk269_2197, bk269_2191, nI_add, Nat.reduceAdd, Option.bind_some, bct_v, bct_t, otl_s, otl_n, List.cons_append, List.nil_append, List.getElem?_cons_zero, List.getElem?_cons_succ, ↓reduceIte]
  · obtain ⟨th, v, v', S', w2, w3, g3, hB, hv, a1, km, rr, a2, km3, ht, ho, h3⟩ := both (as := [.int (xs (i + 1)), .int (nI 1)]) oI_f (wr_listen (xs (i + 1)) (nI 1)) (fun ok => j_listen ok (xs (i + 1)) true) h
    have a1 : am_x 256 [.ref x, .int (xs (i + 1)), .int (nI 1), .ref u] w = _ := a1
    have t1 := rr (i + 1) (by omega)
    have t2 := rr (i + 2) (by omega)
    refine ⟨S', w3, g3, ?_, h3⟩
    have x266 : am_x 266 [.ref m] w3 = some (.inl (some (.int (nI th))), w3) := by
      simp only [bx266, bk266_0, ht, bk266_4, Option.bind_some, bct_v, bct_t, otl_s, otl_n, List.cons_append, List.nil_append, List.getElem?_cons_zero, List.getElem?_cons_succ, ↓reduceIte]
    by_cases z0 : th = 0
    · obtain rfl := hv z0
      obtain ⟨oa, od, os, hO⟩ := ho z0
      subst z0
      have gO : am_gf w3 u 9 0 = some (.long (Int32.toInt64 v')) := gfc hO
      simp only [r1, r2, t1, t2, a1, km, a2, e2, km3, x266, not_true_eq_false, gO, cmp_s, bk269_834, bk269_841, bk269_847, bk269_854, bk269_850, bk269_855, bk269_859, bk269_868, bk269_874, bk269_881, bk269_877, bk269_882, bk269_885, bk269_891, bk269_898, bk269_896, bk269_916, bk269_903, bk269_907, bk269_914, bk269_2197, bk269_2191, nI_add, Nat.reduceAdd, Option.bind_some, bct_v, bct_t, otl_s, otl_n, List.cons_append, List.nil_append, List.getElem?_cons_zero, List.getElem?_cons_succ, ↓reduceIte]
    · have z1 : (nI th = nI 0) = False := by rw [nI_eqS (by omega) (by decide)]; exact eq_false z0
      simp only [r1, r2, t1, t2, a1, km, a2, e2, km3, x266, not_true_eq_false, z1, not_false_eq_true, bk269_834, bk269_841, bk269_847, bk269_854, bk269_850, bk269_855, bk269_859, bk269_868, bk269_874, bk269_881, bk269_877, bk269_882, bk269_885, bk269_891, bk269_898, bk269_896, bk269_916, bk269_903, bk269_907, bk269_914, bk269_2197, bk269_2191, nI_add, Nat.reduceAdd, Option.bind_some, bct_v, bct_t, otl_s, otl_n, List.cons_append, List.nil_append, List.getElem?_cons_zero, List.getElem?_cons_succ, ↓reduceIte]

set_option maxHeartbeats 1000000 in
theorem lc_charge (h : LI b L xs x m u S w g k s) {i : Nat} (hi : i + 4 < L) : ∃ (S' : sS) (w' : am_Wd) (g' : Nat → Nat), am_run 269 919 [some (.ref b), some (.ref x), some (.ref m), some (.ref u), some (.int (nI i)), none, none, none] [] w = am_run 269 27 [some (.ref b), some (.ref x), some (.ref m), some (.ref u), some (.int (nI (i + 5))), none, none, none] [] w' ∧ LI b L xs x m u S' w' g' (k + 600) (s + 13200) := by
  have hb := h.2.2.2.2.2.1
  obtain ⟨kd, hr, cp, br, n, ws, mi, nd, dr, me, di, re⟩ := S
  have r1 := rd hb (i := i + 1) (by omega)
  have r2 := rd hb (i := i + 2) (by omega)
  obtain ⟨th, v, v', S', w2, w3, g3, hB, hv, a1, km, rr, a2, km3, ht, ho, h3⟩ := both (as := [.int (xs (i + 1)), .int (xs (i + 2))]) oI_f (wr_charge (xs (i + 1)) (xs (i + 2))) (fun ok => j_charge ok (xs (i + 1)) (xs (i + 2))) h
  have a1 : am_x 187 [.ref x, .int (xs (i + 1)), .int (xs (i + 2)), .ref u] w = _ := a1
  have t1 := rr (i + 1) (by omega)
  have t2 := rr (i + 2) (by omega)
  refine ⟨S', w3, g3, ?_, h3⟩
  have x266 : am_x 266 [.ref m] w3 = some (.inl (some (.int (nI th))), w3) := by
    simp only [bx266, bk266_0, ht, bk266_4, Option.bind_some, bct_v, bct_t, otl_s, otl_n, List.cons_append, List.nil_append, List.getElem?_cons_zero, List.getElem?_cons_succ, ↓reduceIte]
  by_cases z0 : th = 0
  · obtain rfl := hv z0
    obtain ⟨oa, od, os, hO⟩ := ho z0
    subst z0
    have gO : am_gf w3 u 9 0 = some (.long (Int32.toInt64 v')) := gfc hO
    simp only [r1, r2, t1, t2, a1, km, a2, km3, x266, not_true_eq_false, gO, cmp_s, bk269_919, bk269_926, bk269_932, bk269_936, bk269_945, bk269_951, bk269_954, bk269_960, bk269_967, bk269_965, bk269_985, bk269_972, bk269_976, bk269_983, bk269_2197, bk269_2191, nI_add, Nat.reduceAdd, Option.bind_some, bct_v, bct_t, otl_s, otl_n, List.cons_append, List.nil_append, List.getElem?_cons_zero, List.getElem?_cons_succ, ↓reduceIte]
  · have z1 : (nI th = nI 0) = False := by rw [nI_eqS (by omega) (by decide)]; exact eq_false z0
    simp only [r1, r2, t1, t2, a1, km, a2, km3, x266, not_true_eq_false, z1, not_false_eq_true, bk269_919, bk269_926, bk269_932, bk269_936, bk269_945, bk269_951, bk269_954, bk269_960, bk269_967, bk269_965, bk269_985, bk269_972, bk269_976, bk269_983, bk269_2197, bk269_2191, nI_add, Nat.reduceAdd, Option.bind_some, bct_v, bct_t, otl_s, otl_n, List.cons_append, List.nil_append, List.getElem?_cons_zero, List.getElem?_cons_succ, ↓reduceIte]

set_option maxHeartbeats 1000000 in
theorem lc_tellPose (h : LI b L xs x m u S w g k s) {i : Nat} (hi : i + 4 < L) : ∃ (S' : sS) (w' : am_Wd) (g' : Nat → Nat), am_run 269 988 [some (.ref b), some (.ref x), some (.ref m), some (.ref u), some (.int (nI i)), none, none, none] [] w = am_run 269 27 [some (.ref b), some (.ref x), some (.ref m), some (.ref u), some (.int (nI (i + 5))), none, none, none] [] w' ∧ LI b L xs x m u S' w' g' (k + 600) (s + 13200) := by
  have hb := h.2.2.2.2.2.1
  obtain ⟨kd, hr, cp, br, n, ws, mi, nd, dr, me, di, re⟩ := S
  have r1 := rd hb (i := i + 1) (by omega)
  obtain ⟨th, v, v', S', w2, w3, g3, hB, hv, a1, km, rr, a2, km3, ht, ho, h3⟩ := both (as := [.int (xs (i + 1))]) oI_f (wr_tellPose (xs (i + 1))) (fun ok => j_tellPose ok (xs (i + 1))) h
  have a1 : am_x 188 [.ref x, .int (xs (i + 1)), .ref u] w = _ := a1
  have t1 := rr (i + 1) (by omega)
  refine ⟨S', w3, g3, ?_, h3⟩
  have x266 : am_x 266 [.ref m] w3 = some (.inl (some (.int (nI th))), w3) := by
    simp only [bx266, bk266_0, ht, bk266_4, Option.bind_some, bct_v, bct_t, otl_s, otl_n, List.cons_append, List.nil_append, List.getElem?_cons_zero, List.getElem?_cons_succ, ↓reduceIte]
  by_cases z0 : th = 0
  · obtain rfl := hv z0
    obtain ⟨oa, od, os, hO⟩ := ho z0
    subst z0
    have gO : am_gf w3 u 9 0 = some (.long (Int32.toInt64 v')) := gfc hO
    simp only [r1, t1, a1, km, a2, km3, x266, not_true_eq_false, gO, cmp_s, bk269_988, bk269_995, bk269_999, bk269_1008, bk269_1011, bk269_1017, bk269_1024, bk269_1022, bk269_1042, bk269_1029, bk269_1033, bk269_1040, bk269_2197, bk269_2191, nI_add, Nat.reduceAdd, Option.bind_some, bct_v, bct_t, otl_s, otl_n, List.cons_append, List.nil_append, List.getElem?_cons_zero, List.getElem?_cons_succ, ↓reduceIte]
  · have z1 : (nI th = nI 0) = False := by rw [nI_eqS (by omega) (by decide)]; exact eq_false z0
    simp only [r1, t1, a1, km, a2, km3, x266, not_true_eq_false, z1, not_false_eq_true, bk269_988, bk269_995, bk269_999, bk269_1008, bk269_1011, bk269_1017, bk269_1024, bk269_1022, bk269_1042, bk269_1029, bk269_1033, bk269_1040, bk269_2197, bk269_2191, nI_add, Nat.reduceAdd, Option.bind_some, bct_v, bct_t, otl_s, otl_n, List.cons_append, List.nil_append, List.getElem?_cons_zero, List.getElem?_cons_succ, ↓reduceIte]

set_option maxHeartbeats 1000000 in
theorem lc_meet (h : LI b L xs x m u S w g k s) {i : Nat} (hi : i + 4 < L) : ∃ (S' : sS) (w' : am_Wd) (g' : Nat → Nat), am_run 269 1045 [some (.ref b), some (.ref x), some (.ref m), some (.ref u), some (.int (nI i)), none, none, none] [] w = am_run 269 27 [some (.ref b), some (.ref x), some (.ref m), some (.ref u), some (.int (nI (i + 5))), none, none, none] [] w' ∧ LI b L xs x m u S' w' g' (k + 600) (s + 13200) := by
  have hb := h.2.2.2.2.2.1
  obtain ⟨kd, hr, cp, br, n, ws, mi, nd, dr, me, di, re⟩ := S
  have r1 := rd hb (i := i + 1) (by omega)
  have r2 := rd hb (i := i + 2) (by omega)
  obtain ⟨th, v, v', S', w2, w3, g3, hB, hv, a1, km, rr, a2, km3, ht, ho, h3⟩ := both (as := [.int (xs (i + 1)), .int (xs (i + 2))]) oI_f (wr_meet (xs (i + 1)) (xs (i + 2))) (fun ok => j_meet ok (xs (i + 1)) (xs (i + 2))) h
  have a1 : am_x 218 [.ref x, .int (xs (i + 1)), .int (xs (i + 2)), .ref u] w = _ := a1
  have t1 := rr (i + 1) (by omega)
  have t2 := rr (i + 2) (by omega)
  refine ⟨S', w3, g3, ?_, h3⟩
  have x266 : am_x 266 [.ref m] w3 = some (.inl (some (.int (nI th))), w3) := by
    simp only [bx266, bk266_0, ht, bk266_4, Option.bind_some, bct_v, bct_t, otl_s, otl_n, List.cons_append, List.nil_append, List.getElem?_cons_zero, List.getElem?_cons_succ, ↓reduceIte]
  by_cases z0 : th = 0
  · obtain rfl := hv z0
    obtain ⟨oa, od, os, hO⟩ := ho z0
    subst z0
    have gO : am_gf w3 u 9 0 = some (.long (Int32.toInt64 v')) := gfc hO
    simp only [r1, r2, t1, t2, a1, km, a2, km3, x266, not_true_eq_false, gO, cmp_s, bk269_1045, bk269_1052, bk269_1058, bk269_1062, bk269_1071, bk269_1077, bk269_1080, bk269_1086, bk269_1093, bk269_1091, bk269_1111, bk269_1098, bk269_1102, bk269_1109, bk269_2197, bk269_2191, nI_add, Nat.reduceAdd, Option.bind_some, bct_v, bct_t, otl_s, otl_n, List.cons_append, List.nil_append, List.getElem?_cons_zero, List.getElem?_cons_succ, ↓reduceIte]
  · have z1 : (nI th = nI 0) = False := by rw [nI_eqS (by omega) (by decide)]; exact eq_false z0
    simp only [r1, r2, t1, t2, a1, km, a2, km3, x266, not_true_eq_false, z1, not_false_eq_true, bk269_1045, bk269_1052, bk269_1058, bk269_1062, bk269_1071, bk269_1077, bk269_1080, bk269_1086, bk269_1093, bk269_1091, bk269_1111, bk269_1098, bk269_1102, bk269_1109, bk269_2197, bk269_2191, nI_add, Nat.reduceAdd, Option.bind_some, bct_v, bct_t, otl_s, otl_n, List.cons_append, List.nil_append, List.getElem?_cons_zero, List.getElem?_cons_succ, ↓reduceIte]

set_option maxHeartbeats 1000000 in
theorem lc_pass (h : LI b L xs x m u S w g k s) {i : Nat} (hi : i + 4 < L) : ∃ (S' : sS) (w' : am_Wd) (g' : Nat → Nat), am_run 269 1114 [some (.ref b), some (.ref x), some (.ref m), some (.ref u), some (.int (nI i)), none, none, none] [] w = am_run 269 27 [some (.ref b), some (.ref x), some (.ref m), some (.ref u), some (.int (nI (i + 5))), none, none, none] [] w' ∧ LI b L xs x m u S' w' g' (k + 600) (s + 13200) := by
  have hb := h.2.2.2.2.2.1
  obtain ⟨kd, hr, cp, br, n, ws, mi, nd, dr, me, di, re⟩ := S
  have r1 := rd hb (i := i + 1) (by omega)
  obtain ⟨th, v, v', S', w2, w3, g3, hB, hv, a1, km, rr, a2, km3, ht, ho, h3⟩ := both (as := [.int (xs (i + 1))]) oI_f (wr_pass (xs (i + 1))) (fun ok => j_pass ok (xs (i + 1))) h
  have a1 : am_x 189 [.ref x, .int (xs (i + 1)), .ref u] w = _ := a1
  have t1 := rr (i + 1) (by omega)
  refine ⟨S', w3, g3, ?_, h3⟩
  have x266 : am_x 266 [.ref m] w3 = some (.inl (some (.int (nI th))), w3) := by
    simp only [bx266, bk266_0, ht, bk266_4, Option.bind_some, bct_v, bct_t, otl_s, otl_n, List.cons_append, List.nil_append, List.getElem?_cons_zero, List.getElem?_cons_succ, ↓reduceIte]
  by_cases z0 : th = 0
  · obtain rfl := hv z0
    obtain ⟨oa, od, os, hO⟩ := ho z0
    subst z0
    have gO : am_gf w3 u 9 0 = some (.long (Int32.toInt64 v')) := gfc hO
    simp only [r1, t1, a1, km, a2, km3, x266, not_true_eq_false, gO, cmp_s, bk269_1114, bk269_1121, bk269_1125, bk269_1134, bk269_1137, bk269_1143, bk269_1150, bk269_1148, bk269_1168, bk269_1155, bk269_1159, bk269_1166, bk269_2197, bk269_2191, nI_add, Nat.reduceAdd, Option.bind_some, bct_v, bct_t, otl_s, otl_n, List.cons_append, List.nil_append, List.getElem?_cons_zero, List.getElem?_cons_succ, ↓reduceIte]
  · have z1 : (nI th = nI 0) = False := by rw [nI_eqS (by omega) (by decide)]; exact eq_false z0
    simp only [r1, t1, a1, km, a2, km3, x266, not_true_eq_false, z1, not_false_eq_true, bk269_1114, bk269_1121, bk269_1125, bk269_1134, bk269_1137, bk269_1143, bk269_1150, bk269_1148, bk269_1168, bk269_1155, bk269_1159, bk269_1166, bk269_2197, bk269_2191, nI_add, Nat.reduceAdd, Option.bind_some, bct_v, bct_t, otl_s, otl_n, List.cons_append, List.nil_append, List.getElem?_cons_zero, List.getElem?_cons_succ, ↓reduceIte]

set_option maxHeartbeats 1000000 in
theorem lc_call (h : LI b L xs x m u S w g k s) {i : Nat} (hi : i + 4 < L) : ∃ (S' : sS) (w' : am_Wd) (g' : Nat → Nat), am_run 269 1171 [some (.ref b), some (.ref x), some (.ref m), some (.ref u), some (.int (nI i)), none, none, none] [] w = am_run 269 27 [some (.ref b), some (.ref x), some (.ref m), some (.ref u), some (.int (nI (i + 5))), none, none, none] [] w' ∧ LI b L xs x m u S' w' g' (k + 600) (s + 13200) := by
  have hb := h.2.2.2.2.2.1
  obtain ⟨kd, hr, cp, br, n, ws, mi, nd, dr, me, di, re⟩ := S
  obtain ⟨v, S', w2, w3, g3, kx, a1, km, a2, h3⟩ := both0 (fun ok => j_call ok) h
  refine ⟨S', w3, g3, ?_, h3⟩
  simp only [kx, a1, km, a2, cmp_s, not_true_eq_false, bk269_1171, bk269_1175, bk269_1179, bk269_1182, bk269_2197, bk269_2191, nI_add, Nat.reduceAdd, Option.bind_some, bct_v, bct_t, otl_s, otl_n, List.cons_append, List.nil_append, List.getElem?_cons_zero, List.getElem?_cons_succ, ↓reduceIte]

set_option maxHeartbeats 1000000 in
theorem lc_ofEdge (h : LI b L xs x m u S w g k s) {i : Nat} (hi : i + 4 < L) : ∃ (S' : sS) (w' : am_Wd) (g' : Nat → Nat), am_run 269 1184 [some (.ref b), some (.ref x), some (.ref m), some (.ref u), some (.int (nI i)), none, none, none] [] w = am_run 269 27 [some (.ref b), some (.ref x), some (.ref m), some (.ref u), some (.int (nI (i + 5))), none, none, none] [] w' ∧ LI b L xs x m u S' w' g' (k + 600) (s + 13200) := by
  have hb := h.2.2.2.2.2.1
  obtain ⟨kd, hr, cp, br, n, ws, mi, nd, dr, me, di, re⟩ := S
  have r1 := rd hb (i := i + 1) (by omega)
  have r2 := rd hb (i := i + 2) (by omega)
  have r3 := rd hb (i := i + 3) (by omega)
  obtain ⟨th, v, v', S', w2, w3, g3, hB, hv, a1, km, rr, a2, km3, ht, ho, h3⟩ := both (as := [.int (xs (i + 1)), .int (xs (i + 2)), .int (xs (i + 3))]) oI_f (wr_ofEdge (xs (i + 1)) (xs (i + 2)) (xs (i + 3))) (fun ok => j_ofEdge ok (xs (i + 1)) (xs (i + 2)) (xs (i + 3))) h
  have a1 : am_x 219 [.ref x, .int (xs (i + 1)), .int (xs (i + 2)), .int (xs (i + 3)), .ref u] w = _ := a1
  have t1 := rr (i + 1) (by omega)
  have t2 := rr (i + 2) (by omega)
  have t3 := rr (i + 3) (by omega)
  refine ⟨S', w3, g3, ?_, h3⟩
  have x266 : am_x 266 [.ref m] w3 = some (.inl (some (.int (nI th))), w3) := by
    simp only [bx266, bk266_0, ht, bk266_4, Option.bind_some, bct_v, bct_t, otl_s, otl_n, List.cons_append, List.nil_append, List.getElem?_cons_zero, List.getElem?_cons_succ, ↓reduceIte]
  by_cases z0 : th = 0
  · obtain rfl := hv z0
    obtain ⟨oa, od, os, hO⟩ := ho z0
    subst z0
    have gO : am_gf w3 u 9 0 = some (.long (Int32.toInt64 v')) := gfc hO
    simp only [r1, r2, r3, t1, t2, t3, a1, km, a2, km3, x266, not_true_eq_false, gO, cmp_s, bk269_1184, bk269_1191, bk269_1197, bk269_1203, bk269_1207, bk269_1216, bk269_1222, bk269_1228, bk269_1231, bk269_1237, bk269_1244, bk269_1242, bk269_1262, bk269_1249, bk269_1253, bk269_1260, bk269_2197, bk269_2191, nI_add, Nat.reduceAdd, Option.bind_some, bct_v, bct_t, otl_s, otl_n, List.cons_append, List.nil_append, List.getElem?_cons_zero, List.getElem?_cons_succ, ↓reduceIte]
  · have z1 : (nI th = nI 0) = False := by rw [nI_eqS (by omega) (by decide)]; exact eq_false z0
    simp only [r1, r2, r3, t1, t2, t3, a1, km, a2, km3, x266, not_true_eq_false, z1, not_false_eq_true, bk269_1184, bk269_1191, bk269_1197, bk269_1203, bk269_1207, bk269_1216, bk269_1222, bk269_1228, bk269_1231, bk269_1237, bk269_1244, bk269_1242, bk269_1262, bk269_1249, bk269_1253, bk269_1260, bk269_2197, bk269_2191, nI_add, Nat.reduceAdd, Option.bind_some, bct_v, bct_t, otl_s, otl_n, List.cons_append, List.nil_append, List.getElem?_cons_zero, List.getElem?_cons_succ, ↓reduceIte]

set_option maxHeartbeats 1000000 in
theorem lc_ofWalker (h : LI b L xs x m u S w g k s) {i : Nat} (hi : i + 4 < L) : ∃ (S' : sS) (w' : am_Wd) (g' : Nat → Nat), am_run 269 1265 [some (.ref b), some (.ref x), some (.ref m), some (.ref u), some (.int (nI i)), none, none, none] [] w = am_run 269 27 [some (.ref b), some (.ref x), some (.ref m), some (.ref u), some (.int (nI (i + 5))), none, none, none] [] w' ∧ LI b L xs x m u S' w' g' (k + 600) (s + 13200) := by
  have hb := h.2.2.2.2.2.1
  obtain ⟨kd, hr, cp, br, n, ws, mi, nd, dr, me, di, re⟩ := S
  have r1 := rd hb (i := i + 1) (by omega)
  have r2 := rd hb (i := i + 2) (by omega)
  obtain ⟨th, v, v', S', w2, w3, g3, hB, hv, a1, km, rr, a2, km3, ht, ho, h3⟩ := both (as := [.int (xs (i + 1)), .int (xs (i + 2))]) oI_f (wr_ofWalker (xs (i + 1)) (xs (i + 2))) (fun ok => j_ofWalker ok (xs (i + 1)) (xs (i + 2))) h
  have a1 : am_x 234 [.ref x, .int (xs (i + 1)), .int (xs (i + 2)), .ref u] w = _ := a1
  have t1 := rr (i + 1) (by omega)
  have t2 := rr (i + 2) (by omega)
  refine ⟨S', w3, g3, ?_, h3⟩
  have x266 : am_x 266 [.ref m] w3 = some (.inl (some (.int (nI th))), w3) := by
    simp only [bx266, bk266_0, ht, bk266_4, Option.bind_some, bct_v, bct_t, otl_s, otl_n, List.cons_append, List.nil_append, List.getElem?_cons_zero, List.getElem?_cons_succ, ↓reduceIte]
  by_cases z0 : th = 0
  · obtain rfl := hv z0
    obtain ⟨oa, od, os, hO⟩ := ho z0
    subst z0
    have gO : am_gf w3 u 9 0 = some (.long (Int32.toInt64 v')) := gfc hO
    simp only [r1, r2, t1, t2, a1, km, a2, km3, x266, not_true_eq_false, gO, cmp_s, bk269_1265, bk269_1272, bk269_1278, bk269_1282, bk269_1291, bk269_1297, bk269_1300, bk269_1306, bk269_1313, bk269_1311, bk269_1331, bk269_1318, bk269_1322, bk269_1329, bk269_2197, bk269_2191, nI_add, Nat.reduceAdd, Option.bind_some, bct_v, bct_t, otl_s, otl_n, List.cons_append, List.nil_append, List.getElem?_cons_zero, List.getElem?_cons_succ, ↓reduceIte]
  · have z1 : (nI th = nI 0) = False := by rw [nI_eqS (by omega) (by decide)]; exact eq_false z0
    simp only [r1, r2, t1, t2, a1, km, a2, km3, x266, not_true_eq_false, z1, not_false_eq_true, bk269_1265, bk269_1272, bk269_1278, bk269_1282, bk269_1291, bk269_1297, bk269_1300, bk269_1306, bk269_1313, bk269_1311, bk269_1331, bk269_1318, bk269_1322, bk269_1329, bk269_2197, bk269_2191, nI_add, Nat.reduceAdd, Option.bind_some, bct_v, bct_t, otl_s, otl_n, List.cons_append, List.nil_append, List.getElem?_cons_zero, List.getElem?_cons_succ, ↓reduceIte]

set_option maxHeartbeats 1000000 in
theorem lc_house (h : LI b L xs x m u S w g k s) {i : Nat} (hi : i + 4 < L) : ∃ (S' : sS) (w' : am_Wd) (g' : Nat → Nat), am_run 269 1334 [some (.ref b), some (.ref x), some (.ref m), some (.ref u), some (.int (nI i)), none, none, none] [] w = am_run 269 27 [some (.ref b), some (.ref x), some (.ref m), some (.ref u), some (.int (nI (i + 5))), none, none, none] [] w' ∧ LI b L xs x m u S' w' g' (k + 600) (s + 13200) := by
  have hb := h.2.2.2.2.2.1
  obtain ⟨kd, hr, cp, br, n, ws, mi, nd, dr, me, di, re⟩ := S
  have r1 := rd hb (i := i + 1) (by omega)
  obtain ⟨th, v, v', S', w2, w3, g3, hB, hv, a1, km, rr, a2, km3, ht, ho, h3⟩ := both (as := [.int (xs (i + 1))]) oI_f (wr_house (xs (i + 1))) (fun ok => j_house ok (xs (i + 1))) h
  have a1 : am_x 190 [.ref x, .int (xs (i + 1)), .ref u] w = _ := a1
  have t1 := rr (i + 1) (by omega)
  refine ⟨S', w3, g3, ?_, h3⟩
  have x266 : am_x 266 [.ref m] w3 = some (.inl (some (.int (nI th))), w3) := by
    simp only [bx266, bk266_0, ht, bk266_4, Option.bind_some, bct_v, bct_t, otl_s, otl_n, List.cons_append, List.nil_append, List.getElem?_cons_zero, List.getElem?_cons_succ, ↓reduceIte]
  by_cases z0 : th = 0
  · obtain rfl := hv z0
    obtain ⟨oa, od, os, hO⟩ := ho z0
    subst z0
    have gO : am_gf w3 u 9 0 = some (.long (Int32.toInt64 v')) := gfc hO
    simp only [r1, t1, a1, km, a2, km3, x266, not_true_eq_false, gO, cmp_s, bk269_1334, bk269_1341, bk269_1345, bk269_1354, bk269_1357, bk269_1363, bk269_1370, bk269_1368, bk269_1388, bk269_1375, bk269_1379, bk269_1386, bk269_2197, bk269_2191, nI_add, Nat.reduceAdd, Option.bind_some, bct_v, bct_t, otl_s, otl_n, List.cons_append, List.nil_append, List.getElem?_cons_zero, List.getElem?_cons_succ, ↓reduceIte]
  · have z1 : (nI th = nI 0) = False := by rw [nI_eqS (by omega) (by decide)]; exact eq_false z0
    simp only [r1, t1, a1, km, a2, km3, x266, not_true_eq_false, z1, not_false_eq_true, bk269_1334, bk269_1341, bk269_1345, bk269_1354, bk269_1357, bk269_1363, bk269_1370, bk269_1368, bk269_1388, bk269_1375, bk269_1379, bk269_1386, bk269_2197, bk269_2191, nI_add, Nat.reduceAdd, Option.bind_some, bct_v, bct_t, otl_s, otl_n, List.cons_append, List.nil_append, List.getElem?_cons_zero, List.getElem?_cons_succ, ↓reduceIte]

set_option maxHeartbeats 1000000 in
theorem lc_row (h : LI b L xs x m u S w g k s) {i : Nat} (hi : i + 4 < L) : ∃ (S' : sS) (w' : am_Wd) (g' : Nat → Nat), am_run 269 1391 [some (.ref b), some (.ref x), some (.ref m), some (.ref u), some (.int (nI i)), none, none, none] [] w = am_run 269 27 [some (.ref b), some (.ref x), some (.ref m), some (.ref u), some (.int (nI (i + 5))), none, none, none] [] w' ∧ LI b L xs x m u S' w' g' (k + 600) (s + 13200) := by
  have hb := h.2.2.2.2.2.1
  obtain ⟨kd, hr, cp, br, n, ws, mi, nd, dr, me, di, re⟩ := S
  have r1 := rd hb (i := i + 1) (by omega)
  obtain ⟨th, v, w2, w3, g3, hB, a1, km, rr, a2, km3, ht, hs, h3⟩ := bothR (z := xs (i + 1)) (fun ok => j_row ok _) h
  have t1 := rr (i + 1) (by omega)
  refine ⟨_, w3, g3, ?_, h3⟩
  have x266 : am_x 266 [.ref m] w3 = some (.inl (some (.int (nI th))), w3) := by
    simp only [bx266, bk266_0, ht, bk266_4, Option.bind_some, bct_v, bct_t, otl_s, otl_n, List.cons_append, List.nil_append, List.getElem?_cons_zero, List.getElem?_cons_succ, ↓reduceIte]
  by_cases z0 : th = 0
  · obtain ⟨v1, T, gO, s1, s2⟩ := hs z0
    subst z0
    have kS := kf_tS s1
    have xe := eq_tS s1 s2 (by decide)
    simp only [r1, t1, a1, km, a2, km3, x266, not_true_eq_false, not_false_eq_true, gO, kS, xe, n10, bk269_1391, bk269_1398, bk269_1402, bk269_1411, bk269_1414, bk269_1420, bk269_1427, bk269_1425, bk269_1446, bk269_1432, bk269_1436, bk269_1441, bk269_1444, bk269_2197, bk269_2191, nI_add, Nat.reduceAdd, Option.bind_some, bct_v, bct_t, otl_s, otl_n, List.cons_append, List.nil_append, List.getElem?_cons_zero, List.getElem?_cons_succ, ↓reduceIte]
  · have z1 : (nI th = nI 0) = False := by rw [nI_eqS (by omega) (by decide)]; exact eq_false z0
    simp only [r1, t1, a1, km, a2, km3, x266, z1, not_false_eq_true, bk269_1391, bk269_1398, bk269_1402, bk269_1411, bk269_1414, bk269_1420, bk269_1427, bk269_1425, bk269_1446, bk269_1432, bk269_1436, bk269_1441, bk269_1444, bk269_2197, bk269_2191, nI_add, Nat.reduceAdd, Option.bind_some, bct_v, bct_t, otl_s, otl_n, List.cons_append, List.nil_append, List.getElem?_cons_zero, List.getElem?_cons_succ, ↓reduceIte]

set_option maxHeartbeats 1000000 in
theorem lc_map (h : LI b L xs x m u S w g k s) {i : Nat} (hi : i + 4 < L) : ∃ (S' : sS) (w' : am_Wd) (g' : Nat → Nat), am_run 269 1449 [some (.ref b), some (.ref x), some (.ref m), some (.ref u), some (.int (nI i)), none, none, none] [] w = am_run 269 27 [some (.ref b), some (.ref x), some (.ref m), some (.ref u), some (.int (nI (i + 5))), none, none, none] [] w' ∧ LI b L xs x m u S' w' g' (k + 600) (s + 13200) := by
  have hb := h.2.2.2.2.2.1
  obtain ⟨kd, hr, cp, br, n, ws, mi, nd, dr, me, di, re⟩ := S
  have r1 := rd hb (i := i + 1) (by omega)
  have r2 := rd hb (i := i + 2) (by omega)
  have r3 := rd hb (i := i + 3) (by omega)
  obtain ⟨th, v, v', S', w2, w3, g3, hB, hv, a1, km, rr, a2, km3, ht, ho, h3⟩ := both (as := [.int (xs (i + 1)), .int (xs (i + 2)), .int (xs (i + 3))]) oI_f (wr_map (xs (i + 1)) (xs (i + 2)) (xs (i + 3))) (fun ok => j_map ok (xs (i + 1)) (xs (i + 2)) (xs (i + 3))) h
  have a1 : am_x 191 [.ref x, .int (xs (i + 1)), .int (xs (i + 2)), .int (xs (i + 3)), .ref u] w = _ := a1
  have t1 := rr (i + 1) (by omega)
  have t2 := rr (i + 2) (by omega)
  have t3 := rr (i + 3) (by omega)
  refine ⟨S', w3, g3, ?_, h3⟩
  have x266 : am_x 266 [.ref m] w3 = some (.inl (some (.int (nI th))), w3) := by
    simp only [bx266, bk266_0, ht, bk266_4, Option.bind_some, bct_v, bct_t, otl_s, otl_n, List.cons_append, List.nil_append, List.getElem?_cons_zero, List.getElem?_cons_succ, ↓reduceIte]
  by_cases z0 : th = 0
  · obtain rfl := hv z0
    obtain ⟨oa, od, os, hO⟩ := ho z0
    subst z0
    have gO : am_gf w3 u 9 0 = some (.long (Int32.toInt64 v')) := gfc hO
    simp only [r1, r2, r3, t1, t2, t3, a1, km, a2, km3, x266, not_true_eq_false, gO, cmp_s, bk269_1449, bk269_1456, bk269_1462, bk269_1468, bk269_1472, bk269_1481, bk269_1487, bk269_1493, bk269_1496, bk269_1502, bk269_1509, bk269_1507, bk269_1527, bk269_1514, bk269_1518, bk269_1525, bk269_2197, bk269_2191, nI_add, Nat.reduceAdd, Option.bind_some, bct_v, bct_t, otl_s, otl_n, List.cons_append, List.nil_append, List.getElem?_cons_zero, List.getElem?_cons_succ, ↓reduceIte]
  · have z1 : (nI th = nI 0) = False := by rw [nI_eqS (by omega) (by decide)]; exact eq_false z0
    simp only [r1, r2, r3, t1, t2, t3, a1, km, a2, km3, x266, not_true_eq_false, z1, not_false_eq_true, bk269_1449, bk269_1456, bk269_1462, bk269_1468, bk269_1472, bk269_1481, bk269_1487, bk269_1493, bk269_1496, bk269_1502, bk269_1509, bk269_1507, bk269_1527, bk269_1514, bk269_1518, bk269_1525, bk269_2197, bk269_2191, nI_add, Nat.reduceAdd, Option.bind_some, bct_v, bct_t, otl_s, otl_n, List.cons_append, List.nil_append, List.getElem?_cons_zero, List.getElem?_cons_succ, ↓reduceIte]

set_option maxHeartbeats 1000000 in
theorem lc_may (h : LI b L xs x m u S w g k s) {i : Nat} (hi : i + 4 < L) : ∃ (S' : sS) (w' : am_Wd) (g' : Nat → Nat), am_run 269 1530 [some (.ref b), some (.ref x), some (.ref m), some (.ref u), some (.int (nI i)), none, none, none] [] w = am_run 269 27 [some (.ref b), some (.ref x), some (.ref m), some (.ref u), some (.int (nI (i + 5))), none, none, none] [] w' ∧ LI b L xs x m u S' w' g' (k + 600) (s + 13200) := by
  have hb := h.2.2.2.2.2.1
  obtain ⟨kd, hr, cp, br, n, ws, mi, nd, dr, me, di, re⟩ := S
  have r1 := rd hb (i := i + 1) (by omega)
  have r2 := rd hb (i := i + 2) (by omega)
  obtain ⟨th, v, v', S', w2, w3, g3, hB, hv, a1, km, rr, a2, km3, ht, ho, h3⟩ := both (as := [.int (xs (i + 1)), .int (xs (i + 2))]) oZ_f (wr_may (xs (i + 1)) (xs (i + 2))) (fun ok => j_may ok (xs (i + 1)) (xs (i + 2))) h
  have a1 : am_x 192 [.ref x, .int (xs (i + 1)), .int (xs (i + 2)), .ref u] w = _ := a1
  have t1 := rr (i + 1) (by omega)
  have t2 := rr (i + 2) (by omega)
  refine ⟨S', w3, g3, ?_, h3⟩
  have x266 : am_x 266 [.ref m] w3 = some (.inl (some (.int (nI th))), w3) := by
    simp only [bx266, bk266_0, ht, bk266_4, Option.bind_some, bct_v, bct_t, otl_s, otl_n, List.cons_append, List.nil_append, List.getElem?_cons_zero, List.getElem?_cons_succ, ↓reduceIte]
  by_cases z0 : th = 0
  · obtain rfl := hv z0
    obtain ⟨oa, od, os, hO⟩ := ho z0
    subst z0
    have gO : am_gf w3 u 9 0 = some (.long (if v' = nI 0 then lN 0 else lN 1)) := gfc hO
    by_cases q : v' = nI 0
    · rw [if_pos q] at gO
      simp only [r1, r2, t1, t2, a1, km, a2, km3, x266, not_true_eq_false, gO, q, cmp_s, bk269_1530, bk269_1537, bk269_1543, bk269_1547, bk269_1556, bk269_1562, bk269_1565, bk269_1571, bk269_1578, bk269_1576, bk269_1603, bk269_1583, bk269_1587, bk269_1596, bk269_1592, bk269_1597, bk269_1601, bk269_2197, bk269_2191, nI_add, Nat.reduceAdd, Option.bind_some, bct_v, bct_t, otl_s, otl_n, List.cons_append, List.nil_append, List.getElem?_cons_zero, List.getElem?_cons_succ, ↓reduceIte]
    · rw [if_neg q] at gO
      simp only [r1, r2, t1, t2, a1, km, a2, km3, x266, not_true_eq_false, gO, q, cmp_s, bk269_1530, bk269_1537, bk269_1543, bk269_1547, bk269_1556, bk269_1562, bk269_1565, bk269_1571, bk269_1578, bk269_1576, bk269_1603, bk269_1583, bk269_1587, bk269_1596, bk269_1592, bk269_1597, bk269_1601, bk269_2197, bk269_2191, nI_add, Nat.reduceAdd, Option.bind_some, bct_v, bct_t, otl_s, otl_n, List.cons_append, List.nil_append, List.getElem?_cons_zero, List.getElem?_cons_succ, ↓reduceIte]
  · have z1 : (nI th = nI 0) = False := by rw [nI_eqS (by omega) (by decide)]; exact eq_false z0
    simp only [r1, r2, t1, t2, a1, km, a2, km3, x266, not_true_eq_false, z1, not_false_eq_true, bk269_1530, bk269_1537, bk269_1543, bk269_1547, bk269_1556, bk269_1562, bk269_1565, bk269_1571, bk269_1578, bk269_1576, bk269_1603, bk269_1583, bk269_1587, bk269_1596, bk269_1592, bk269_1597, bk269_1601, bk269_2197, bk269_2191, nI_add, Nat.reduceAdd, Option.bind_some, bct_v, bct_t, otl_s, otl_n, List.cons_append, List.nil_append, List.getElem?_cons_zero, List.getElem?_cons_succ, ↓reduceIte]

set_option maxHeartbeats 1000000 in
theorem lc_where (h : LI b L xs x m u S w g k s) {i : Nat} (hi : i + 4 < L) : ∃ (S' : sS) (w' : am_Wd) (g' : Nat → Nat), am_run 269 1606 [some (.ref b), some (.ref x), some (.ref m), some (.ref u), some (.int (nI i)), none, none, none] [] w = am_run 269 27 [some (.ref b), some (.ref x), some (.ref m), some (.ref u), some (.int (nI (i + 5))), none, none, none] [] w' ∧ LI b L xs x m u S' w' g' (k + 600) (s + 13200) := by
  have hb := h.2.2.2.2.2.1
  obtain ⟨kd, hr, cp, br, n, ws, mi, nd, dr, me, di, re⟩ := S
  have r1 := rd hb (i := i + 1) (by omega)
  have r2 := rd hb (i := i + 2) (by omega)
  obtain ⟨th, v, v', S', w2, w3, g3, hB, hv, a1, km, rr, a2, km3, ht, ho, h3⟩ := both (as := [.int (xs (i + 1)), .int (xs (i + 2))]) oJ_f (wr_where (xs (i + 1)) (xs (i + 2))) (fun ok => j_where ok (xs (i + 1)) (xs (i + 2))) h
  have a1 : am_x 193 [.ref x, .int (xs (i + 1)), .int (xs (i + 2)), .ref u] w = _ := a1
  have t1 := rr (i + 1) (by omega)
  have t2 := rr (i + 2) (by omega)
  refine ⟨S', w3, g3, ?_, h3⟩
  have x266 : am_x 266 [.ref m] w3 = some (.inl (some (.int (nI th))), w3) := by
    simp only [bx266, bk266_0, ht, bk266_4, Option.bind_some, bct_v, bct_t, otl_s, otl_n, List.cons_append, List.nil_append, List.getElem?_cons_zero, List.getElem?_cons_succ, ↓reduceIte]
  by_cases z0 : th = 0
  · obtain rfl := hv z0
    obtain ⟨oa, od, os, hO⟩ := ho z0
    subst z0
    have gO : am_gf w3 u 9 0 = some (.long v') := gfc hO
    simp only [r1, r2, t1, t2, a1, km, a2, km3, x266, not_true_eq_false, gO, cmp_s, bk269_1606, bk269_1613, bk269_1619, bk269_1623, bk269_1632, bk269_1638, bk269_1641, bk269_1647, bk269_1654, bk269_1652, bk269_1671, bk269_1659, bk269_1663, bk269_1669, bk269_2197, bk269_2191, nI_add, Nat.reduceAdd, Option.bind_some, bct_v, bct_t, otl_s, otl_n, List.cons_append, List.nil_append, List.getElem?_cons_zero, List.getElem?_cons_succ, ↓reduceIte]
  · have z1 : (nI th = nI 0) = False := by rw [nI_eqS (by omega) (by decide)]; exact eq_false z0
    simp only [r1, r2, t1, t2, a1, km, a2, km3, x266, not_true_eq_false, z1, not_false_eq_true, bk269_1606, bk269_1613, bk269_1619, bk269_1623, bk269_1632, bk269_1638, bk269_1641, bk269_1647, bk269_1654, bk269_1652, bk269_1671, bk269_1659, bk269_1663, bk269_1669, bk269_2197, bk269_2191, nI_add, Nat.reduceAdd, Option.bind_some, bct_v, bct_t, otl_s, otl_n, List.cons_append, List.nil_append, List.getElem?_cons_zero, List.getElem?_cons_succ, ↓reduceIte]

set_option maxHeartbeats 1000000 in
theorem lc_way (h : LI b L xs x m u S w g k s) {i : Nat} (hi : i + 4 < L) : ∃ (S' : sS) (w' : am_Wd) (g' : Nat → Nat), am_run 269 1674 [some (.ref b), some (.ref x), some (.ref m), some (.ref u), some (.int (nI i)), none, none, none] [] w = am_run 269 27 [some (.ref b), some (.ref x), some (.ref m), some (.ref u), some (.int (nI (i + 5))), none, none, none] [] w' ∧ LI b L xs x m u S' w' g' (k + 600) (s + 13200) := by
  have hb := h.2.2.2.2.2.1
  obtain ⟨kd, hr, cp, br, n, ws, mi, nd, dr, me, di, re⟩ := S
  have r1 := rd hb (i := i + 1) (by omega)
  have r2 := rd hb (i := i + 2) (by omega)
  have r3 := rd hb (i := i + 3) (by omega)
  obtain ⟨th, v, v', S', w2, w3, g3, hB, hv, a1, km, rr, a2, km3, ht, ho, h3⟩ := both (as := [.int (xs (i + 1)), .int (xs (i + 2)), .int (xs (i + 3))]) oI_f (wr_way (xs (i + 1)) (xs (i + 2)) (xs (i + 3))) (fun ok => j_way ok (xs (i + 1)) (xs (i + 2)) (xs (i + 3))) h
  have a1 : am_x 194 [.ref x, .int (xs (i + 1)), .int (xs (i + 2)), .int (xs (i + 3)), .ref u] w = _ := a1
  have t1 := rr (i + 1) (by omega)
  have t2 := rr (i + 2) (by omega)
  have t3 := rr (i + 3) (by omega)
  refine ⟨S', w3, g3, ?_, h3⟩
  have x266 : am_x 266 [.ref m] w3 = some (.inl (some (.int (nI th))), w3) := by
    simp only [bx266, bk266_0, ht, bk266_4, Option.bind_some, bct_v, bct_t, otl_s, otl_n, List.cons_append, List.nil_append, List.getElem?_cons_zero, List.getElem?_cons_succ, ↓reduceIte]
  by_cases z0 : th = 0
  · obtain rfl := hv z0
    obtain ⟨oa, od, os, hO⟩ := ho z0
    subst z0
    have gO : am_gf w3 u 9 0 = some (.long (Int32.toInt64 v')) := gfc hO
    simp only [r1, r2, r3, t1, t2, t3, a1, km, a2, km3, x266, not_true_eq_false, gO, cmp_s, bk269_1674, bk269_1681, bk269_1687, bk269_1693, bk269_1697, bk269_1706, bk269_1712, bk269_1718, bk269_1721, bk269_1727, bk269_1734, bk269_1732, bk269_1752, bk269_1739, bk269_1743, bk269_1750, bk269_2197, bk269_2191, nI_add, Nat.reduceAdd, Option.bind_some, bct_v, bct_t, otl_s, otl_n, List.cons_append, List.nil_append, List.getElem?_cons_zero, List.getElem?_cons_succ, ↓reduceIte]
  · have z1 : (nI th = nI 0) = False := by rw [nI_eqS (by omega) (by decide)]; exact eq_false z0
    simp only [r1, r2, r3, t1, t2, t3, a1, km, a2, km3, x266, not_true_eq_false, z1, not_false_eq_true, bk269_1674, bk269_1681, bk269_1687, bk269_1693, bk269_1697, bk269_1706, bk269_1712, bk269_1718, bk269_1721, bk269_1727, bk269_1734, bk269_1732, bk269_1752, bk269_1739, bk269_1743, bk269_1750, bk269_2197, bk269_2191, nI_add, Nat.reduceAdd, Option.bind_some, bct_v, bct_t, otl_s, otl_n, List.cons_append, List.nil_append, List.getElem?_cons_zero, List.getElem?_cons_succ, ↓reduceIte]

set_option maxHeartbeats 1000000 in
theorem lc_safety (h : LI b L xs x m u S w g k s) {i : Nat} (hi : i + 4 < L) : ∃ (S' : sS) (w' : am_Wd) (g' : Nat → Nat), am_run 269 1755 [some (.ref b), some (.ref x), some (.ref m), some (.ref u), some (.int (nI i)), none, none, none] [] w = am_run 269 27 [some (.ref b), some (.ref x), some (.ref m), some (.ref u), some (.int (nI (i + 5))), none, none, none] [] w' ∧ LI b L xs x m u S' w' g' (k + 600) (s + 13200) := by
  have hb := h.2.2.2.2.2.1
  obtain ⟨kd, hr, cp, br, n, ws, mi, nd, dr, me, di, re⟩ := S
  have r1 := rd hb (i := i + 1) (by omega)
  have r2 := rd hb (i := i + 2) (by omega)
  obtain ⟨th, v, v', S', w2, w3, g3, hB, hv, a1, km, rr, a2, km3, ht, ho, h3⟩ := both (as := [.int (xs (i + 1)), .int (xs (i + 2))]) oI_f (wr_safety (xs (i + 1)) (xs (i + 2))) (fun ok => j_safety ok (xs (i + 1)) (xs (i + 2))) h
  have a1 : am_x 249 [.ref x, .int (xs (i + 1)), .int (xs (i + 2)), .ref u] w = _ := a1
  have t1 := rr (i + 1) (by omega)
  have t2 := rr (i + 2) (by omega)
  refine ⟨S', w3, g3, ?_, h3⟩
  have x266 : am_x 266 [.ref m] w3 = some (.inl (some (.int (nI th))), w3) := by
    simp only [bx266, bk266_0, ht, bk266_4, Option.bind_some, bct_v, bct_t, otl_s, otl_n, List.cons_append, List.nil_append, List.getElem?_cons_zero, List.getElem?_cons_succ, ↓reduceIte]
  by_cases z0 : th = 0
  · obtain rfl := hv z0
    obtain ⟨oa, od, os, hO⟩ := ho z0
    subst z0
    have gO : am_gf w3 u 9 0 = some (.long (Int32.toInt64 v')) := gfc hO
    simp only [r1, r2, t1, t2, a1, km, a2, km3, x266, not_true_eq_false, gO, cmp_s, bk269_1755, bk269_1762, bk269_1768, bk269_1772, bk269_1781, bk269_1787, bk269_1790, bk269_1796, bk269_1803, bk269_1801, bk269_1821, bk269_1808, bk269_1812, bk269_1819, bk269_2197, bk269_2191, nI_add, Nat.reduceAdd, Option.bind_some, bct_v, bct_t, otl_s, otl_n, List.cons_append, List.nil_append, List.getElem?_cons_zero, List.getElem?_cons_succ, ↓reduceIte]
  · have z1 : (nI th = nI 0) = False := by rw [nI_eqS (by omega) (by decide)]; exact eq_false z0
    simp only [r1, r2, t1, t2, a1, km, a2, km3, x266, not_true_eq_false, z1, not_false_eq_true, bk269_1755, bk269_1762, bk269_1768, bk269_1772, bk269_1781, bk269_1787, bk269_1790, bk269_1796, bk269_1803, bk269_1801, bk269_1821, bk269_1808, bk269_1812, bk269_1819, bk269_2197, bk269_2191, nI_add, Nat.reduceAdd, Option.bind_some, bct_v, bct_t, otl_s, otl_n, List.cons_append, List.nil_append, List.getElem?_cons_zero, List.getElem?_cons_succ, ↓reduceIte]

set_option maxHeartbeats 1000000 in
theorem lc_doubt (h : LI b L xs x m u S w g k s) {i : Nat} (hi : i + 4 < L) : ∃ (S' : sS) (w' : am_Wd) (g' : Nat → Nat), am_run 269 1824 [some (.ref b), some (.ref x), some (.ref m), some (.ref u), some (.int (nI i)), none, none, none] [] w = am_run 269 27 [some (.ref b), some (.ref x), some (.ref m), some (.ref u), some (.int (nI (i + 5))), none, none, none] [] w' ∧ LI b L xs x m u S' w' g' (k + 600) (s + 13200) := by
  have hb := h.2.2.2.2.2.1
  obtain ⟨kd, hr, cp, br, n, ws, mi, nd, dr, me, di, re⟩ := S
  have r1 := rd hb (i := i + 1) (by omega)
  obtain ⟨th, v, v', S', w2, w3, g3, hB, hv, a1, km, rr, a2, km3, ht, ho, h3⟩ := both (as := [.int (xs (i + 1))]) oD_f (wr_doubt (xs (i + 1))) (fun ok => j_doubt ok (xs (i + 1))) h
  have a1 : am_x 148 [.ref x, .int (xs (i + 1)), .ref u] w = _ := a1
  have t1 := rr (i + 1) (by omega)
  refine ⟨S', w3, g3, ?_, h3⟩
  have x266 : am_x 266 [.ref m] w3 = some (.inl (some (.int (nI th))), w3) := by
    simp only [bx266, bk266_0, ht, bk266_4, Option.bind_some, bct_v, bct_t, otl_s, otl_n, List.cons_append, List.nil_append, List.getElem?_cons_zero, List.getElem?_cons_succ, ↓reduceIte]
  by_cases z0 : th = 0
  · obtain rfl := hv z0
    obtain ⟨oa, od, os, hO⟩ := ho z0
    subst z0
    have gO : am_gf w3 u 9 1 = some (.double v') := gfc hO
    rcases dcmp_s v' with q | q
    · simp only [r1, t1, a1, km, a2, km3, x266, not_true_eq_false, gO, q, m1_0, not_false_eq_true, bk269_1824, bk269_1831, bk269_1835, bk269_1844, bk269_1847, bk269_1853, bk269_1860, bk269_1858, bk269_1897, bk269_1865, bk269_1869, bk269_1875, bk269_1879, bk269_1883, bk269_1895, bk269_1887, bk269_2197, bk269_2191, nI_add, Nat.reduceAdd, Option.bind_some, bct_v, bct_t, otl_s, otl_n, List.cons_append, List.nil_append, List.getElem?_cons_zero, List.getElem?_cons_succ, ↓reduceIte]
    · simp only [r1, t1, a1, km, a2, km3, x266, not_true_eq_false, gO, q, m1_0, not_false_eq_true, bk269_1824, bk269_1831, bk269_1835, bk269_1844, bk269_1847, bk269_1853, bk269_1860, bk269_1858, bk269_1897, bk269_1865, bk269_1869, bk269_1875, bk269_1879, bk269_1883, bk269_1895, bk269_1887, bk269_2197, bk269_2191, nI_add, Nat.reduceAdd, Option.bind_some, bct_v, bct_t, otl_s, otl_n, List.cons_append, List.nil_append, List.getElem?_cons_zero, List.getElem?_cons_succ, ↓reduceIte]
  · have z1 : (nI th = nI 0) = False := by rw [nI_eqS (by omega) (by decide)]; exact eq_false z0
    simp only [r1, t1, a1, km, a2, km3, x266, not_true_eq_false, z1, not_false_eq_true, bk269_1824, bk269_1831, bk269_1835, bk269_1844, bk269_1847, bk269_1853, bk269_1860, bk269_1858, bk269_1897, bk269_1865, bk269_1869, bk269_1875, bk269_1879, bk269_1883, bk269_1895, bk269_1887, bk269_2197, bk269_2191, nI_add, Nat.reduceAdd, Option.bind_some, bct_v, bct_t, otl_s, otl_n, List.cons_append, List.nil_append, List.getElem?_cons_zero, List.getElem?_cons_succ, ↓reduceIte]

set_option maxHeartbeats 1000000 in
theorem lc_worst (h : LI b L xs x m u S w g k s) {i : Nat} (hi : i + 4 < L) : ∃ (S' : sS) (w' : am_Wd) (g' : Nat → Nat), am_run 269 1900 [some (.ref b), some (.ref x), some (.ref m), some (.ref u), some (.int (nI i)), none, none, none] [] w = am_run 269 27 [some (.ref b), some (.ref x), some (.ref m), some (.ref u), some (.int (nI (i + 5))), none, none, none] [] w' ∧ LI b L xs x m u S' w' g' (k + 600) (s + 13200) := by
  have hb := h.2.2.2.2.2.1
  obtain ⟨kd, hr, cp, br, n, ws, mi, nd, dr, me, di, re⟩ := S
  have r1 := rd hb (i := i + 1) (by omega)
  have r2 := rd hb (i := i + 2) (by omega)
  obtain ⟨th, v, v', S', w2, w3, g3, hB, hv, a1, km, rr, a2, km3, ht, ho, h3⟩ := both (as := [.int (xs (i + 1)), .int (xs (i + 2))]) oI_f (wr_worst (xs (i + 1)) (xs (i + 2))) (fun ok => j_worst ok (xs (i + 1)) (xs (i + 2))) h
  have a1 : am_x 235 [.ref x, .int (xs (i + 1)), .int (xs (i + 2)), .ref u] w = _ := a1
  have t1 := rr (i + 1) (by omega)
  have t2 := rr (i + 2) (by omega)
  refine ⟨S', w3, g3, ?_, h3⟩
  have x266 : am_x 266 [.ref m] w3 = some (.inl (some (.int (nI th))), w3) := by
    simp only [bx266, bk266_0, ht, bk266_4, Option.bind_some, bct_v, bct_t, otl_s, otl_n, List.cons_append, List.nil_append, List.getElem?_cons_zero, List.getElem?_cons_succ, ↓reduceIte]
  by_cases z0 : th = 0
  · obtain rfl := hv z0
    obtain ⟨oa, od, os, hO⟩ := ho z0
    subst z0
    have gO : am_gf w3 u 9 0 = some (.long (Int32.toInt64 v')) := gfc hO
    simp only [r1, r2, t1, t2, a1, km, a2, km3, x266, not_true_eq_false, gO, cmp_s, bk269_1900, bk269_1907, bk269_1913, bk269_1917, bk269_1926, bk269_1932, bk269_1935, bk269_1941, bk269_1948, bk269_1946, bk269_1966, bk269_1953, bk269_1957, bk269_1964, bk269_2197, bk269_2191, nI_add, Nat.reduceAdd, Option.bind_some, bct_v, bct_t, otl_s, otl_n, List.cons_append, List.nil_append, List.getElem?_cons_zero, List.getElem?_cons_succ, ↓reduceIte]
  · have z1 : (nI th = nI 0) = False := by rw [nI_eqS (by omega) (by decide)]; exact eq_false z0
    simp only [r1, r2, t1, t2, a1, km, a2, km3, x266, not_true_eq_false, z1, not_false_eq_true, bk269_1900, bk269_1907, bk269_1913, bk269_1917, bk269_1926, bk269_1932, bk269_1935, bk269_1941, bk269_1948, bk269_1946, bk269_1966, bk269_1953, bk269_1957, bk269_1964, bk269_2197, bk269_2191, nI_add, Nat.reduceAdd, Option.bind_some, bct_v, bct_t, otl_s, otl_n, List.cons_append, List.nil_append, List.getElem?_cons_zero, List.getElem?_cons_succ, ↓reduceIte]

set_option maxHeartbeats 1000000 in
theorem lc_best (h : LI b L xs x m u S w g k s) {i : Nat} (hi : i + 4 < L) : ∃ (S' : sS) (w' : am_Wd) (g' : Nat → Nat), am_run 269 1969 [some (.ref b), some (.ref x), some (.ref m), some (.ref u), some (.int (nI i)), none, none, none] [] w = am_run 269 27 [some (.ref b), some (.ref x), some (.ref m), some (.ref u), some (.int (nI (i + 5))), none, none, none] [] w' ∧ LI b L xs x m u S' w' g' (k + 600) (s + 13200) := by
  have hb := h.2.2.2.2.2.1
  obtain ⟨kd, hr, cp, br, n, ws, mi, nd, dr, me, di, re⟩ := S
  have r1 := rd hb (i := i + 1) (by omega)
  obtain ⟨th, v, v', S', w2, w3, g3, hB, hv, a1, km, rr, a2, km3, ht, ho, h3⟩ := both (as := [.int (xs (i + 1))]) oI_f (wr_best (xs (i + 1))) (fun ok => j_best ok (xs (i + 1))) h
  have a1 : am_x 236 [.ref x, .int (xs (i + 1)), .ref u] w = _ := a1
  have t1 := rr (i + 1) (by omega)
  refine ⟨S', w3, g3, ?_, h3⟩
  have x266 : am_x 266 [.ref m] w3 = some (.inl (some (.int (nI th))), w3) := by
    simp only [bx266, bk266_0, ht, bk266_4, Option.bind_some, bct_v, bct_t, otl_s, otl_n, List.cons_append, List.nil_append, List.getElem?_cons_zero, List.getElem?_cons_succ, ↓reduceIte]
  by_cases z0 : th = 0
  · obtain rfl := hv z0
    obtain ⟨oa, od, os, hO⟩ := ho z0
    subst z0
    have gO : am_gf w3 u 9 0 = some (.long (Int32.toInt64 v')) := gfc hO
    simp only [r1, t1, a1, km, a2, km3, x266, not_true_eq_false, gO, cmp_s, bk269_1969, bk269_1976, bk269_1980, bk269_1989, bk269_1992, bk269_1998, bk269_2005, bk269_2003, bk269_2023, bk269_2010, bk269_2014, bk269_2021, bk269_2197, bk269_2191, nI_add, Nat.reduceAdd, Option.bind_some, bct_v, bct_t, otl_s, otl_n, List.cons_append, List.nil_append, List.getElem?_cons_zero, List.getElem?_cons_succ, ↓reduceIte]
  · have z1 : (nI th = nI 0) = False := by rw [nI_eqS (by omega) (by decide)]; exact eq_false z0
    simp only [r1, t1, a1, km, a2, km3, x266, not_true_eq_false, z1, not_false_eq_true, bk269_1969, bk269_1976, bk269_1980, bk269_1989, bk269_1992, bk269_1998, bk269_2005, bk269_2003, bk269_2023, bk269_2010, bk269_2014, bk269_2021, bk269_2197, bk269_2191, nI_add, Nat.reduceAdd, Option.bind_some, bct_v, bct_t, otl_s, otl_n, List.cons_append, List.nil_append, List.getElem?_cons_zero, List.getElem?_cons_succ, ↓reduceIte]

set_option maxHeartbeats 1000000 in
theorem lc_wouldFeel (h : LI b L xs x m u S w g k s) {i : Nat} (hi : i + 4 < L) : ∃ (S' : sS) (w' : am_Wd) (g' : Nat → Nat), am_run 269 2026 [some (.ref b), some (.ref x), some (.ref m), some (.ref u), some (.int (nI i)), none, none, none] [] w = am_run 269 27 [some (.ref b), some (.ref x), some (.ref m), some (.ref u), some (.int (nI (i + 5))), none, none, none] [] w' ∧ LI b L xs x m u S' w' g' (k + 600) (s + 13200) := by
  have hb := h.2.2.2.2.2.1
  obtain ⟨kd, hr, cp, br, n, ws, mi, nd, dr, me, di, re⟩ := S
  have r1 := rd hb (i := i + 1) (by omega)
  have r2 := rd hb (i := i + 2) (by omega)
  obtain ⟨th, v, v', S', w2, w3, g3, hB, hv, a1, km, rr, a2, km3, ht, ho, h3⟩ := both (as := [.int (xs (i + 1)), .int (xs (i + 2))]) oI_f (wr_wouldFeel (xs (i + 1)) (xs (i + 2))) (fun ok => j_wouldFeel ok (xs (i + 1)) (xs (i + 2))) h
  have a1 : am_x 220 [.ref x, .int (xs (i + 1)), .int (xs (i + 2)), .ref u] w = _ := a1
  have t1 := rr (i + 1) (by omega)
  have t2 := rr (i + 2) (by omega)
  refine ⟨S', w3, g3, ?_, h3⟩
  have x266 : am_x 266 [.ref m] w3 = some (.inl (some (.int (nI th))), w3) := by
    simp only [bx266, bk266_0, ht, bk266_4, Option.bind_some, bct_v, bct_t, otl_s, otl_n, List.cons_append, List.nil_append, List.getElem?_cons_zero, List.getElem?_cons_succ, ↓reduceIte]
  by_cases z0 : th = 0
  · obtain rfl := hv z0
    obtain ⟨oa, od, os, hO⟩ := ho z0
    subst z0
    have gO : am_gf w3 u 9 0 = some (.long (Int32.toInt64 v')) := gfc hO
    simp only [r1, r2, t1, t2, a1, km, a2, km3, x266, not_true_eq_false, gO, cmp_s, bk269_2026, bk269_2033, bk269_2039, bk269_2043, bk269_2052, bk269_2058, bk269_2061, bk269_2067, bk269_2074, bk269_2072, bk269_2092, bk269_2079, bk269_2083, bk269_2090, bk269_2197, bk269_2191, nI_add, Nat.reduceAdd, Option.bind_some, bct_v, bct_t, otl_s, otl_n, List.cons_append, List.nil_append, List.getElem?_cons_zero, List.getElem?_cons_succ, ↓reduceIte]
  · have z1 : (nI th = nI 0) = False := by rw [nI_eqS (by omega) (by decide)]; exact eq_false z0
    simp only [r1, r2, t1, t2, a1, km, a2, km3, x266, not_true_eq_false, z1, not_false_eq_true, bk269_2026, bk269_2033, bk269_2039, bk269_2043, bk269_2052, bk269_2058, bk269_2061, bk269_2067, bk269_2074, bk269_2072, bk269_2092, bk269_2079, bk269_2083, bk269_2090, bk269_2197, bk269_2191, nI_add, Nat.reduceAdd, Option.bind_some, bct_v, bct_t, otl_s, otl_n, List.cons_append, List.nil_append, List.getElem?_cons_zero, List.getElem?_cons_succ, ↓reduceIte]

set_option maxHeartbeats 1000000 in
theorem lc_wouldBe (h : LI b L xs x m u S w g k s) {i : Nat} (hi : i + 4 < L) : ∃ (S' : sS) (w' : am_Wd) (g' : Nat → Nat), am_run 269 2095 [some (.ref b), some (.ref x), some (.ref m), some (.ref u), some (.int (nI i)), none, none, none] [] w = am_run 269 27 [some (.ref b), some (.ref x), some (.ref m), some (.ref u), some (.int (nI (i + 5))), none, none, none] [] w' ∧ LI b L xs x m u S' w' g' (k + 600) (s + 13200) := by
  have hb := h.2.2.2.2.2.1
  obtain ⟨kd, hr, cp, br, n, ws, mi, nd, dr, me, di, re⟩ := S
  have r1 := rd hb (i := i + 1) (by omega)
  have r2 := rd hb (i := i + 2) (by omega)
  obtain ⟨th, v, v', S', w2, w3, g3, hB, hv, a1, km, rr, a2, km3, ht, ho, h3⟩ := both (as := [.int (xs (i + 1)), .int (xs (i + 2))]) oI_f (wr_wouldBe (xs (i + 1)) (xs (i + 2))) (fun ok => j_wouldBe ok (xs (i + 1)) (xs (i + 2))) h
  have a1 : am_x 237 [.ref x, .int (xs (i + 1)), .int (xs (i + 2)), .ref u] w = _ := a1
  have t1 := rr (i + 1) (by omega)
  have t2 := rr (i + 2) (by omega)
  refine ⟨S', w3, g3, ?_, h3⟩
  have x266 : am_x 266 [.ref m] w3 = some (.inl (some (.int (nI th))), w3) := by
    simp only [bx266, bk266_0, ht, bk266_4, Option.bind_some, bct_v, bct_t, otl_s, otl_n, List.cons_append, List.nil_append, List.getElem?_cons_zero, List.getElem?_cons_succ, ↓reduceIte]
  by_cases z0 : th = 0
  · obtain rfl := hv z0
    obtain ⟨oa, od, os, hO⟩ := ho z0
    subst z0
    have gO : am_gf w3 u 9 0 = some (.long (Int32.toInt64 v')) := gfc hO
    simp only [r1, r2, t1, t2, a1, km, a2, km3, x266, not_true_eq_false, gO, cmp_s, bk269_2095, bk269_2102, bk269_2108, bk269_2112, bk269_2121, bk269_2127, bk269_2130, bk269_2136, bk269_2143, bk269_2141, bk269_2161, bk269_2148, bk269_2152, bk269_2159, bk269_2197, bk269_2191, nI_add, Nat.reduceAdd, Option.bind_some, bct_v, bct_t, otl_s, otl_n, List.cons_append, List.nil_append, List.getElem?_cons_zero, List.getElem?_cons_succ, ↓reduceIte]
  · have z1 : (nI th = nI 0) = False := by rw [nI_eqS (by omega) (by decide)]; exact eq_false z0
    simp only [r1, r2, t1, t2, a1, km, a2, km3, x266, not_true_eq_false, z1, not_false_eq_true, bk269_2095, bk269_2102, bk269_2108, bk269_2112, bk269_2121, bk269_2127, bk269_2130, bk269_2136, bk269_2143, bk269_2141, bk269_2161, bk269_2148, bk269_2152, bk269_2159, bk269_2197, bk269_2191, nI_add, Nat.reduceAdd, Option.bind_some, bct_v, bct_t, otl_s, otl_n, List.cons_append, List.nil_append, List.getElem?_cons_zero, List.getElem?_cons_succ, ↓reduceIte]

set_option maxHeartbeats 1000000 in
theorem lc_isSound (h : LI b L xs x m u S w g k s) {i : Nat} (hi : i + 4 < L) : ∃ (S' : sS) (w' : am_Wd) (g' : Nat → Nat), am_run 269 2164 [some (.ref b), some (.ref x), some (.ref m), some (.ref u), some (.int (nI i)), none, none, none] [] w = am_run 269 27 [some (.ref b), some (.ref x), some (.ref m), some (.ref u), some (.int (nI (i + 5))), none, none, none] [] w' ∧ LI b L xs x m u S' w' g' (k + 600) (s + 13200) := by
  have hb := h.2.2.2.2.2.1
  obtain ⟨kd, hr, cp, br, n, ws, mi, nd, dr, me, di, re⟩ := S
  obtain ⟨v, S', w2, w3, g3, kx, a1, km, a2, h3⟩ := both0 (fun ok => j_isSound ok) h
  refine ⟨S', w3, g3, ?_, h3⟩
  simp only [kx, a1, km, a2, cmp_s, not_true_eq_false, bk269_2164, bk269_2168, bk269_2172, bk269_2175, bk269_2197, bk269_2191, nI_add, Nat.reduceAdd, Option.bind_some, bct_v, bct_t, otl_s, otl_n, List.cons_append, List.nil_append, List.getElem?_cons_zero, List.getElem?_cons_succ, ↓reduceIte]

set_option maxHeartbeats 1000000 in
theorem lc_digest (h : LI b L xs x m u S w g k s) {i : Nat} (hi : i + 4 < L) : ∃ (S' : sS) (w' : am_Wd) (g' : Nat → Nat), am_run 269 2177 [some (.ref b), some (.ref x), some (.ref m), some (.ref u), some (.int (nI i)), none, none, none] [] w = am_run 269 27 [some (.ref b), some (.ref x), some (.ref m), some (.ref u), some (.int (nI (i + 5))), none, none, none] [] w' ∧ LI b L xs x m u S' w' g' (k + 600) (s + 13200) := by
  have hb := h.2.2.2.2.2.1
  obtain ⟨kd, hr, cp, br, n, ws, mi, nd, dr, me, di, re⟩ := S
  obtain ⟨v, S', w2, w3, g3, kx, a1, km, a2, h3⟩ := both0 (fun ok => j_digest ok) h
  refine ⟨S', w3, g3, ?_, h3⟩
  simp only [kx, a1, km, a2, cmp_s, not_true_eq_false, bk269_2177, bk269_2181, bk269_2185, bk269_2189, bk269_2197, bk269_2191, nI_add, Nat.reduceAdd, Option.bind_some, bct_v, bct_t, otl_s, otl_n, List.cons_append, List.nil_append, List.getElem?_cons_zero, List.getElem?_cons_succ, ↓reduceIte]

end LC
end
section
/-! THE LAW'S LOOP. Laid by wip/gen/lawc.py. Mine. -/
section LP
variable {w : am_Wd} {g : Nat → Nat} {x m u b L : Nat} {xs : Nat → Int32} {S : sS} {k s : Nat}
theorem sub5 {L i : Nat} (hL : L ≤ 2560) (hi : i ≤ 2565) : (nI L - nI 5 < nI i) = (L < i + 5) := by
  by_cases h : 5 ≤ L
  · rw [nI_subS h, nI_ltS (by omega) (by omega)]
    exact propext ⟨fun q => by omega, fun q => by omega⟩
  · have z : nI 0 ≤ nI i := by rw [nI_leS (by decide) (by omega)]; exact Nat.zero_le i
    refine propext ⟨fun _ => by omega, fun _ => ?_⟩
    have y : ∀ j : Fin 5, nI j.val - nI 5 < nI 0 := by decide +kernel
    exact Int32.lt_of_lt_of_le (y ⟨L, by omega⟩) z
set_option maxHeartbeats 1000000 in
theorem lc_all (h : LI b L xs x m u S w g k s) {i : Nat} (hi : i + 4 < L) : ∃ (S' : sS) (w' : am_Wd) (g' : Nat → Nat), am_run 269 27 [some (.ref b), some (.ref x), some (.ref m), some (.ref u), some (.int (nI i)), none, none, none] [] w = am_run 269 27 [some (.ref b), some (.ref x), some (.ref m), some (.ref u), some (.int (nI (i + 5))), none, none, none] [] w' ∧ LI b L xs x m u S' w' g' (k + 600) (s + 13200) := by
  have hb := h.2.2.2.2.2.1
  have r0 := rd hb (i := i) (by omega)
  have ln := lenI hb.1 (by decide)
  have hL := hb.2.2.2
  have q5 : (nI L - nI 5 < nI i) = False := by rw [sub5 hL (by omega)]; exact eq_false (by omega)
  have st : am_run 269 27 [some (.ref b), some (.ref x), some (.ref m), some (.ref u), some (.int (nI i)), none, none, none] [] w = am_run 269 40 [some (.ref b), some (.ref x), some (.ref m), some (.ref u), some (.int (nI i)), none, none, none] [.int (xs i)] w := by
    simp only [bk269_27, bk269_31, bk269_36, ln, q5, r0, Option.bind_some, bct_v, bct_t, otl_s, otl_n, List.cons_append, List.nil_append, List.getElem?_cons_zero, List.getElem?_cons_succ, ↓reduceIte]
  rw [st, bk269_40]
  by_cases c0 : (xs i &&& nI 31) = nI 0
  · rw [if_pos c0]; exact lc_edge h hi
  rw [if_neg c0]
  by_cases c1 : (xs i &&& nI 31) = nI 1
  · rw [if_pos c1]; exact lc_lay h hi
  rw [if_neg c1]
  by_cases c2 : (xs i &&& nI 31) = nI 2
  · rw [if_pos c2]; exact lc_cell h hi
  rw [if_neg c2]
  by_cases c3 : (xs i &&& nI 31) = nI 3
  · rw [if_pos c3]; exact lc_walker h hi
  rw [if_neg c3]
  by_cases c4 : (xs i &&& nI 31) = nI 4
  · rw [if_pos c4]; exact lc_forward h hi
  rw [if_neg c4]
  by_cases c5 : (xs i &&& nI 31) = nI 5
  · rw [if_pos c5]; exact lc_turn h hi
  rw [if_neg c5]
  by_cases c6 : (xs i &&& nI 31) = nI 6
  · rw [if_pos c6]; exact lc_feel h hi
  rw [if_neg c6]
  by_cases c7 : (xs i &&& nI 31) = nI 7
  · rw [if_pos c7]; exact lc_listen h hi
  rw [if_neg c7]
  by_cases c8 : (xs i &&& nI 31) = nI 8
  · rw [if_pos c8]; exact lc_charge h hi
  rw [if_neg c8]
  by_cases c9 : (xs i &&& nI 31) = nI 9
  · rw [if_pos c9]; exact lc_tellPose h hi
  rw [if_neg c9]
  by_cases c10 : (xs i &&& nI 31) = nI 10
  · rw [if_pos c10]; exact lc_meet h hi
  rw [if_neg c10]
  by_cases c11 : (xs i &&& nI 31) = nI 11
  · rw [if_pos c11]; exact lc_pass h hi
  rw [if_neg c11]
  by_cases c12 : (xs i &&& nI 31) = nI 12
  · rw [if_pos c12]; exact lc_call h hi
  rw [if_neg c12]
  by_cases c13 : (xs i &&& nI 31) = nI 13
  · rw [if_pos c13]; exact lc_ofEdge h hi
  rw [if_neg c13]
  by_cases c14 : (xs i &&& nI 31) = nI 14
  · rw [if_pos c14]; exact lc_ofWalker h hi
  rw [if_neg c14]
  by_cases c15 : (xs i &&& nI 31) = nI 15
  · rw [if_pos c15]; exact lc_house h hi
  rw [if_neg c15]
  by_cases c16 : (xs i &&& nI 31) = nI 16
  · rw [if_pos c16]; exact lc_row h hi
  rw [if_neg c16]
  by_cases c17 : (xs i &&& nI 31) = nI 17
  · rw [if_pos c17]; exact lc_map h hi
  rw [if_neg c17]
  by_cases c18 : (xs i &&& nI 31) = nI 18
  · rw [if_pos c18]; exact lc_may h hi
  rw [if_neg c18]
  by_cases c19 : (xs i &&& nI 31) = nI 19
  · rw [if_pos c19]; exact lc_where h hi
  rw [if_neg c19]
  by_cases c20 : (xs i &&& nI 31) = nI 20
  · rw [if_pos c20]; exact lc_way h hi
  rw [if_neg c20]
  by_cases c21 : (xs i &&& nI 31) = nI 21
  · rw [if_pos c21]; exact lc_safety h hi
  rw [if_neg c21]
  by_cases c22 : (xs i &&& nI 31) = nI 22
  · rw [if_pos c22]; exact lc_doubt h hi
  rw [if_neg c22]
  by_cases c23 : (xs i &&& nI 31) = nI 23
  · rw [if_pos c23]; exact lc_worst h hi
  rw [if_neg c23]
  by_cases c24 : (xs i &&& nI 31) = nI 24
  · rw [if_pos c24]; exact lc_best h hi
  rw [if_neg c24]
  by_cases c25 : (xs i &&& nI 31) = nI 25
  · rw [if_pos c25]; exact lc_wouldFeel h hi
  rw [if_neg c25]
  by_cases c26 : (xs i &&& nI 31) = nI 26
  · rw [if_pos c26]; exact lc_wouldBe h hi
  rw [if_neg c26]
  by_cases c27 : (xs i &&& nI 31) = nI 27
  · rw [if_pos c27]; exact lc_isSound h hi
  rw [if_neg c27]
  by_cases c28 : (xs i &&& nI 31) = nI 28
  · rw [if_pos c28]; exact lc_digest h hi
  rw [if_neg c28]
  refine ⟨S, w, g, ?_, li_wk h (by omega) (by omega)⟩
  simp only [bk269_2197, bk269_2191, nI_add, Option.bind_some, bct_v, bct_t, otl_s, otl_n, List.cons_append, List.nil_append, List.getElem?_cons_zero, List.getElem?_cons_succ, ↓reduceIte]
theorem law_go : ∀ (f i : Nat) (S : sS) (w : am_Wd) (g : Nat → Nat) (k s : Nat), L < i + 5 * f + 5 → i ≤ 2560 → LI b L xs x m u S w g k s → ∃ w', am_run 269 27 [some (.ref b), some (.ref x), some (.ref m), some (.ref u), some (.int (nI i)), none, none, none] [] w = some (.inl (some (.int (nI 1))), w') ∧ w'.2.1 ≤ k + 600 * f ∧ w'.2.2.1 ≤ s + 13200 * f := by
  have stop : ∀ (i : Nat) (S : sS) (w : am_Wd) (g : Nat → Nat) (k s : Nat), L < i + 5 → i ≤ 2560 → LI b L xs x m u S w g k s → am_run 269 27 [some (.ref b), some (.ref x), some (.ref m), some (.ref u), some (.int (nI i)), none, none, none] [] w = some (.inl (some (.int (nI 1))), w) := by
    intro i S w g k s hL hi h
    have hb := h.2.2.2.2.2.1
    have ln := lenI hb.1 (by decide)
    have q5 : (nI L - nI 5 < nI i) = True := by rw [sub5 hb.2.2.2 (by omega)]; exact eq_true hL
    simp only [bk269_27, bk269_31, bk269_36, bk269_2197, ln, q5, Option.bind_some, bct_v, bct_t, otl_s, otl_n, List.cons_append, List.nil_append, List.getElem?_cons_zero, List.getElem?_cons_succ, ↓reduceIte]
  intro f
  induction f with
  | zero =>
    intro i S w g k s hL hi h
    exact ⟨w, stop i S w g k s (by omega) hi h, by have := h.2.2.2.2.2.2.2.2.1; omega, by have := h.2.2.2.2.2.2.2.2.2; omega⟩
  | succ f ih =>
    intro i S w g k s hL hi h
    by_cases q : L < i + 5
    · exact ⟨w, stop i S w g k s q hi h, by have := h.2.2.2.2.2.2.2.2.1; omega, by have := h.2.2.2.2.2.2.2.2.2; omega⟩
    · have hb := h.2.2.2.2.2.1
      obtain ⟨S', w', g', t, h'⟩ := lc_all h (i := i) (by omega)
      obtain ⟨w2, t2, l1, l2⟩ := ih (i + 5) S' w' g' _ _ (by omega) (by have := hb.2.2.2; omega) h'
      exact ⟨w2, t.trans t2, by omega, by omega⟩
end LP
end
