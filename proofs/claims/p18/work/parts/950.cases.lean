section
/-! THE LAW, case by case. Laid by wip/gen/lawc.py. Mine. -/
theorem cmp_s (v : Int64) : lg_cmp v v = nI 0 := by
  unfold lg_cmp
  simp [Int64.lt_irrefl]
  try rfl
section LC
variable {w : am_Wd} {g : Nat → Nat} {x m u b L : Nat} {xs : Nat → Int32} {S : sS} {k s : Nat}

set_option maxHeartbeats 1000000 in
theorem lc_edge (h : LI b L xs x m u S w g k s) {i : Nat} (hi : i + 4 < L) : ∃ (S' : sS) (w' : am_Wd) (g' : Nat → Nat), am_run 269 172 [some (.ref b), some (.ref x), some (.ref m), some (.ref u), some (.int (nI i)), none, none, none] [] w = am_run 269 27 [some (.ref b), some (.ref x), some (.ref m), some (.ref u), some (.int (nI (i + 5))), none, none, none] [] w' ∧ LI b L xs x m u S' w' g' (k + 600) (s + 13200) := by
  have hb := h.2.2.2.2.2.1
  obtain ⟨kd, hr, cp, br, n, ws, mi, nd, dr, me, di, re⟩ := S
  have r1 := rd hb (i := i + 1) (by omega)
  have r2 := rd hb (i := i + 2) (by omega)
  have r3 := rd hb (i := i + 3) (by omega)
  have r4 := rd hb (i := i + 4) (by omega)
  obtain ⟨th, v, v', S', w2, w3, g3, hB, hv, a1, km, rr, a2, km3, ht, ho, h3⟩ := both (as := [.int (xs (i + 1)), .int (xs (i + 2)), .int (xs (i + 3)), .int (xs (i + 4))]) oI_f (wr_edge (xs (i + 1)) (xs (i + 2)) (xs (i + 3)) (xs (i + 4))) (fun ok => j_edge ok (xs (i + 1)) (xs (i + 2)) (xs (i + 3)) (xs (i + 4))) h
  have a1 : am_x 216 [.ref x, .int (xs (i + 1)), .int (xs (i + 2)), .int (xs (i + 3)), .int (xs (i + 4)), .ref u] w = _ := a1
  have t1 := rr (i + 1) (by omega)
  have t2 := rr (i + 2) (by omega)
  have t3 := rr (i + 3) (by omega)
  have t4 := rr (i + 4) (by omega)
  refine ⟨S', w3, g3, ?_, h3⟩
  simp only [r1, r2, r3, r4, t1, t2, t3, t4, a1, km, a2, bk269_172, bk269_179, bk269_185, bk269_191, bk269_197, bk269_201, bk269_210, bk269_216, bk269_222, bk269_228, bk269_231, bk269_1439, bk269_1433, nI_add, Nat.reduceAdd, Option.bind_some, bct_v, bct_t, otl_s, otl_n, List.cons_append, List.nil_append, List.getElem?_cons_zero, List.getElem?_cons_succ, ↓reduceIte]

set_option maxHeartbeats 1000000 in
theorem lc_lay (h : LI b L xs x m u S w g k s) {i : Nat} (hi : i + 4 < L) : ∃ (S' : sS) (w' : am_Wd) (g' : Nat → Nat), am_run 269 236 [some (.ref b), some (.ref x), some (.ref m), some (.ref u), some (.int (nI i)), none, none, none] [] w = am_run 269 27 [some (.ref b), some (.ref x), some (.ref m), some (.ref u), some (.int (nI (i + 5))), none, none, none] [] w' ∧ LI b L xs x m u S' w' g' (k + 600) (s + 13200) := by
  have hb := h.2.2.2.2.2.1
  obtain ⟨kd, hr, cp, br, n, ws, mi, nd, dr, me, di, re⟩ := S
  have r1 := rd hb (i := i + 1) (by omega)
  obtain ⟨th, v, v', S', w2, w3, g3, hB, hv, a1, km, rr, a2, km3, ht, ho, h3⟩ := both (as := [.int (xs (i + 1))]) oI_f (wr_lay (xs (i + 1))) (fun ok => j_lay ok (xs (i + 1))) h
  have a1 : am_x 233 [.ref x, .int (xs (i + 1)), .ref u] w = _ := a1
  have t1 := rr (i + 1) (by omega)
  refine ⟨S', w3, g3, ?_, h3⟩
  simp only [r1, t1, a1, km, a2, bk269_236, bk269_243, bk269_247, bk269_256, bk269_259, bk269_1439, bk269_1433, nI_add, Nat.reduceAdd, Option.bind_some, bct_v, bct_t, otl_s, otl_n, List.cons_append, List.nil_append, List.getElem?_cons_zero, List.getElem?_cons_succ, ↓reduceIte]

set_option maxHeartbeats 1000000 in
theorem lc_cell (h : LI b L xs x m u S w g k s) {i : Nat} (hi : i + 4 < L) : ∃ (S' : sS) (w' : am_Wd) (g' : Nat → Nat), am_run 269 264 [some (.ref b), some (.ref x), some (.ref m), some (.ref u), some (.int (nI i)), none, none, none] [] w = am_run 269 27 [some (.ref b), some (.ref x), some (.ref m), some (.ref u), some (.int (nI (i + 5))), none, none, none] [] w' ∧ LI b L xs x m u S' w' g' (k + 600) (s + 13200) := by
  have hb := h.2.2.2.2.2.1
  obtain ⟨kd, hr, cp, br, n, ws, mi, nd, dr, me, di, re⟩ := S
  have r1 := rd hb (i := i + 1) (by omega)
  have r2 := rd hb (i := i + 2) (by omega)
  have r3 := rd hb (i := i + 3) (by omega)
  by_cases e2 : xs (i + 2) = nI 0
  · by_cases e3 : xs (i + 3) = nI 0
    · obtain ⟨th, v, v', S', w2, w3, g3, hB, hv, a1, km, rr, a2, km3, ht, ho, h3⟩ := both (as := [.int (xs (i + 1)), .int (nI 0), .int (nI 0)]) oI_f (wr_cell (xs (i + 1)) (nI 0) (nI 0)) (fun ok => j_cell ok (xs (i + 1)) false false) h
      have a1 : am_x 147 [.ref x, .int (xs (i + 1)), .int (nI 0), .int (nI 0), .ref u] w = _ := a1
      have t1 := rr (i + 1) (by omega)
      have t2 := rr (i + 2) (by omega)
      have t3 := rr (i + 3) (by omega)
      refine ⟨S', w3, g3, ?_, h3⟩
      simp only [r1, r2, r3, t1, t2, t3, a1, km, a2, e2, e3, bk269_264, bk269_271, bk269_277, bk269_284, bk269_280, bk269_285, bk269_291, bk269_298, bk269_294, bk269_299, bk269_303, bk269_312, bk269_318, bk269_325, bk269_321, bk269_326, bk269_332, bk269_339, bk269_335, bk269_340, bk269_343, bk269_1439, bk269_1433, nI_add, Nat.reduceAdd, Option.bind_some, bct_v, bct_t, otl_s, otl_n, List.cons_append, List.nil_append, List.getElem?_cons_zero, List.getElem?_cons_succ, ↓reduceIte]
    · obtain ⟨th, v, v', S', w2, w3, g3, hB, hv, a1, km, rr, a2, km3, ht, ho, h3⟩ := both (as := [.int (xs (i + 1)), .int (nI 0), .int (nI 1)]) oI_f (wr_cell (xs (i + 1)) (nI 0) (nI 1)) (fun ok => j_cell ok (xs (i + 1)) false true) h
      have a1 : am_x 147 [.ref x, .int (xs (i + 1)), .int (nI 0), .int (nI 1), .ref u] w = _ := a1
      have t1 := rr (i + 1) (by omega)
      have t2 := rr (i + 2) (by omega)
      have t3 := rr (i + 3) (by omega)
      refine ⟨S', w3, g3, ?_, h3⟩
      simp only [r1, r2, r3, t1, t2, t3, a1, km, a2, e2, e3, bk269_264, bk269_271, bk269_277, bk269_284, bk269_280, bk269_285, bk269_291, bk269_298, bk269_294, bk269_299, bk269_303, bk269_312, bk269_318, bk269_325, bk269_321, bk269_326, bk269_332, bk269_339, bk269_335, bk269_340, bk269_343, bk269_1439, bk269_1433, nI_add, Nat.reduceAdd, Option.bind_some, bct_v, bct_t, otl_s, otl_n, List.cons_append, List.nil_append, List.getElem?_cons_zero, List.getElem?_cons_succ, ↓reduceIte]
  · by_cases e3 : xs (i + 3) = nI 0
    · obtain ⟨th, v, v', S', w2, w3, g3, hB, hv, a1, km, rr, a2, km3, ht, ho, h3⟩ := both (as := [.int (xs (i + 1)), .int (nI 1), .int (nI 0)]) oI_f (wr_cell (xs (i + 1)) (nI 1) (nI 0)) (fun ok => j_cell ok (xs (i + 1)) true false) h
      have a1 : am_x 147 [.ref x, .int (xs (i + 1)), .int (nI 1), .int (nI 0), .ref u] w = _ := a1
      have t1 := rr (i + 1) (by omega)
      have t2 := rr (i + 2) (by omega)
      have t3 := rr (i + 3) (by omega)
      refine ⟨S', w3, g3, ?_, h3⟩
      simp only [r1, r2, r3, t1, t2, t3, a1, km, a2, e2, e3, bk269_264, bk269_271, bk269_277, bk269_284, bk269_280, bk269_285, bk269_291, bk269_298, bk269_294, bk269_299, bk269_303, bk269_312, bk269_318, bk269_325, bk269_321, bk269_326, bk269_332, bk269_339, bk269_335, bk269_340, bk269_343, bk269_1439, bk269_1433, nI_add, Nat.reduceAdd, Option.bind_some, bct_v, bct_t, otl_s, otl_n, List.cons_append, List.nil_append, List.getElem?_cons_zero, List.getElem?_cons_succ, ↓reduceIte]
    · obtain ⟨th, v, v', S', w2, w3, g3, hB, hv, a1, km, rr, a2, km3, ht, ho, h3⟩ := both (as := [.int (xs (i + 1)), .int (nI 1), .int (nI 1)]) oI_f (wr_cell (xs (i + 1)) (nI 1) (nI 1)) (fun ok => j_cell ok (xs (i + 1)) true true) h
      have a1 : am_x 147 [.ref x, .int (xs (i + 1)), .int (nI 1), .int (nI 1), .ref u] w = _ := a1
      have t1 := rr (i + 1) (by omega)
      have t2 := rr (i + 2) (by omega)
      have t3 := rr (i + 3) (by omega)
      refine ⟨S', w3, g3, ?_, h3⟩
      simp only [r1, r2, r3, t1, t2, t3, a1, km, a2, e2, e3, bk269_264, bk269_271, bk269_277, bk269_284, bk269_280, bk269_285, bk269_291, bk269_298, bk269_294, bk269_299, bk269_303, bk269_312, bk269_318, bk269_325, bk269_321, bk269_326, bk269_332, bk269_339, bk269_335, bk269_340, bk269_343, bk269_1439, bk269_1433, nI_add, Nat.reduceAdd, Option.bind_some, bct_v, bct_t, otl_s, otl_n, List.cons_append, List.nil_append, List.getElem?_cons_zero, List.getElem?_cons_succ, ↓reduceIte]

set_option maxHeartbeats 1000000 in
theorem lc_walker (h : LI b L xs x m u S w g k s) {i : Nat} (hi : i + 4 < L) : ∃ (S' : sS) (w' : am_Wd) (g' : Nat → Nat), am_run 269 348 [some (.ref b), some (.ref x), some (.ref m), some (.ref u), some (.int (nI i)), none, none, none] [] w = am_run 269 27 [some (.ref b), some (.ref x), some (.ref m), some (.ref u), some (.int (nI (i + 5))), none, none, none] [] w' ∧ LI b L xs x m u S' w' g' (k + 600) (s + 13200) := by
  have hb := h.2.2.2.2.2.1
  obtain ⟨kd, hr, cp, br, n, ws, mi, nd, dr, me, di, re⟩ := S
  have r1 := rd hb (i := i + 1) (by omega)
  have r2 := rd hb (i := i + 2) (by omega)
  have r3 := rd hb (i := i + 3) (by omega)
  have r4 := rd hb (i := i + 4) (by omega)
  by_cases e4 : xs (i + 4) = nI 0
  · obtain ⟨th, v, v', S', w2, w3, g3, hB, hv, a1, km, rr, a2, km3, ht, ho, h3⟩ := both (as := [.int (xs (i + 1)), .int (xs (i + 2)), .int (xs (i + 3)), .int (nI 0)]) oI_f (wr_walker (xs (i + 1)) (xs (i + 2)) (xs (i + 3)) (nI 0)) (fun ok => j_walker ok (xs (i + 1)) (xs (i + 2)) (xs (i + 3)) false) h
    have a1 : am_x 217 [.ref x, .int (xs (i + 1)), .int (xs (i + 2)), .int (xs (i + 3)), .int (nI 0), .ref u] w = _ := a1
    have t1 := rr (i + 1) (by omega)
    have t2 := rr (i + 2) (by omega)
    have t3 := rr (i + 3) (by omega)
    have t4 := rr (i + 4) (by omega)
    refine ⟨S', w3, g3, ?_, h3⟩
    simp only [r1, r2, r3, r4, t1, t2, t3, t4, a1, km, a2, e4, bk269_348, bk269_355, bk269_361, bk269_367, bk269_373, bk269_380, bk269_376, bk269_381, bk269_385, bk269_394, bk269_400, bk269_406, bk269_412, bk269_419, bk269_415, bk269_420, bk269_423, bk269_1439, bk269_1433, nI_add, Nat.reduceAdd, Option.bind_some, bct_v, bct_t, otl_s, otl_n, List.cons_append, List.nil_append, List.getElem?_cons_zero, List.getElem?_cons_succ, ↓reduceIte]
  · obtain ⟨th, v, v', S', w2, w3, g3, hB, hv, a1, km, rr, a2, km3, ht, ho, h3⟩ := both (as := [.int (xs (i + 1)), .int (xs (i + 2)), .int (xs (i + 3)), .int (nI 1)]) oI_f (wr_walker (xs (i + 1)) (xs (i + 2)) (xs (i + 3)) (nI 1)) (fun ok => j_walker ok (xs (i + 1)) (xs (i + 2)) (xs (i + 3)) true) h
    have a1 : am_x 217 [.ref x, .int (xs (i + 1)), .int (xs (i + 2)), .int (xs (i + 3)), .int (nI 1), .ref u] w = _ := a1
    have t1 := rr (i + 1) (by omega)
    have t2 := rr (i + 2) (by omega)
    have t3 := rr (i + 3) (by omega)
    have t4 := rr (i + 4) (by omega)
    refine ⟨S', w3, g3, ?_, h3⟩
    simp only [r1, r2, r3, r4, t1, t2, t3, t4, a1, km, a2, e4, bk269_348, bk269_355, bk269_361, bk269_367, bk269_373, bk269_380, bk269_376, bk269_381, bk269_385, bk269_394, bk269_400, bk269_406, bk269_412, bk269_419, bk269_415, bk269_420, bk269_423, bk269_1439, bk269_1433, nI_add, Nat.reduceAdd, Option.bind_some, bct_v, bct_t, otl_s, otl_n, List.cons_append, List.nil_append, List.getElem?_cons_zero, List.getElem?_cons_succ, ↓reduceIte]

set_option maxHeartbeats 1000000 in
theorem lc_forward (h : LI b L xs x m u S w g k s) {i : Nat} (hi : i + 4 < L) : ∃ (S' : sS) (w' : am_Wd) (g' : Nat → Nat), am_run 269 428 [some (.ref b), some (.ref x), some (.ref m), some (.ref u), some (.int (nI i)), none, none, none] [] w = am_run 269 27 [some (.ref b), some (.ref x), some (.ref m), some (.ref u), some (.int (nI (i + 5))), none, none, none] [] w' ∧ LI b L xs x m u S' w' g' (k + 600) (s + 13200) := by
  have hb := h.2.2.2.2.2.1
  obtain ⟨kd, hr, cp, br, n, ws, mi, nd, dr, me, di, re⟩ := S
  have r1 := rd hb (i := i + 1) (by omega)
  have r2 := rd hb (i := i + 2) (by omega)
  by_cases e2 : xs (i + 2) = nI 0
  · obtain ⟨th, v, v', S', w2, w3, g3, hB, hv, a1, km, rr, a2, km3, ht, ho, h3⟩ := both (as := [.int (xs (i + 1)), .int (nI 0)]) oZ_f (wr_forward (xs (i + 1)) (nI 0)) (fun ok => j_forward ok (xs (i + 1)) false) h
    have a1 : am_x 253 [.ref x, .int (xs (i + 1)), .int (nI 0), .ref u] w = _ := a1
    have t1 := rr (i + 1) (by omega)
    have t2 := rr (i + 2) (by omega)
    refine ⟨S', w3, g3, ?_, h3⟩
    simp only [r1, r2, t1, t2, a1, km, a2, e2, bk269_428, bk269_435, bk269_441, bk269_448, bk269_444, bk269_449, bk269_453, bk269_462, bk269_468, bk269_475, bk269_471, bk269_476, bk269_479, bk269_1439, bk269_1433, nI_add, Nat.reduceAdd, Option.bind_some, bct_v, bct_t, otl_s, otl_n, List.cons_append, List.nil_append, List.getElem?_cons_zero, List.getElem?_cons_succ, ↓reduceIte]
  · obtain ⟨th, v, v', S', w2, w3, g3, hB, hv, a1, km, rr, a2, km3, ht, ho, h3⟩ := both (as := [.int (xs (i + 1)), .int (nI 1)]) oZ_f (wr_forward (xs (i + 1)) (nI 1)) (fun ok => j_forward ok (xs (i + 1)) true) h
    have a1 : am_x 253 [.ref x, .int (xs (i + 1)), .int (nI 1), .ref u] w = _ := a1
    have t1 := rr (i + 1) (by omega)
    have t2 := rr (i + 2) (by omega)
    refine ⟨S', w3, g3, ?_, h3⟩
    simp only [r1, r2, t1, t2, a1, km, a2, e2, bk269_428, bk269_435, bk269_441, bk269_448, bk269_444, bk269_449, bk269_453, bk269_462, bk269_468, bk269_475, bk269_471, bk269_476, bk269_479, bk269_1439, bk269_1433, nI_add, Nat.reduceAdd, Option.bind_some, bct_v, bct_t, otl_s, otl_n, List.cons_append, List.nil_append, List.getElem?_cons_zero, List.getElem?_cons_succ, ↓reduceIte]

set_option maxHeartbeats 1000000 in
theorem lc_turn (h : LI b L xs x m u S w g k s) {i : Nat} (hi : i + 4 < L) : ∃ (S' : sS) (w' : am_Wd) (g' : Nat → Nat), am_run 269 484 [some (.ref b), some (.ref x), some (.ref m), some (.ref u), some (.int (nI i)), none, none, none] [] w = am_run 269 27 [some (.ref b), some (.ref x), some (.ref m), some (.ref u), some (.int (nI (i + 5))), none, none, none] [] w' ∧ LI b L xs x m u S' w' g' (k + 600) (s + 13200) := by
  have hb := h.2.2.2.2.2.1
  obtain ⟨kd, hr, cp, br, n, ws, mi, nd, dr, me, di, re⟩ := S
  have r1 := rd hb (i := i + 1) (by omega)
  have r2 := rd hb (i := i + 2) (by omega)
  have r3 := rd hb (i := i + 3) (by omega)
  by_cases e2 : xs (i + 2) = nI 0
  · by_cases e3 : xs (i + 3) = nI 0
    · obtain ⟨th, v, v', S', w2, w3, g3, hB, hv, a1, km, rr, a2, km3, ht, ho, h3⟩ := both (as := [.int (xs (i + 1)), .int (nI 0), .int (nI 0)]) oI_f (wr_turn (xs (i + 1)) (nI 0) (nI 0)) (fun ok => j_turn ok (xs (i + 1)) false false) h
      have a1 : am_x 254 [.ref x, .int (xs (i + 1)), .int (nI 0), .int (nI 0), .ref u] w = _ := a1
      have t1 := rr (i + 1) (by omega)
      have t2 := rr (i + 2) (by omega)
      have t3 := rr (i + 3) (by omega)
      refine ⟨S', w3, g3, ?_, h3⟩
      simp only [r1, r2, r3, t1, t2, t3, a1, km, a2, e2, e3, bk269_484, bk269_491, bk269_497, bk269_504, bk269_500, bk269_505, bk269_511, bk269_518, bk269_514, bk269_519, bk269_523, bk269_532, bk269_538, bk269_545, bk269_541, bk269_546, bk269_552, bk269_559, bk269_555, bk269_560, bk269_563, bk269_1439, bk269_1433, nI_add, Nat.reduceAdd, Option.bind_some, bct_v, bct_t, otl_s, otl_n, List.cons_append, List.nil_append, List.getElem?_cons_zero, List.getElem?_cons_succ, ↓reduceIte]
    · obtain ⟨th, v, v', S', w2, w3, g3, hB, hv, a1, km, rr, a2, km3, ht, ho, h3⟩ := both (as := [.int (xs (i + 1)), .int (nI 0), .int (nI 1)]) oI_f (wr_turn (xs (i + 1)) (nI 0) (nI 1)) (fun ok => j_turn ok (xs (i + 1)) false true) h
      have a1 : am_x 254 [.ref x, .int (xs (i + 1)), .int (nI 0), .int (nI 1), .ref u] w = _ := a1
      have t1 := rr (i + 1) (by omega)
      have t2 := rr (i + 2) (by omega)
      have t3 := rr (i + 3) (by omega)
      refine ⟨S', w3, g3, ?_, h3⟩
      simp only [r1, r2, r3, t1, t2, t3, a1, km, a2, e2, e3, bk269_484, bk269_491, bk269_497, bk269_504, bk269_500, bk269_505, bk269_511, bk269_518, bk269_514, bk269_519, bk269_523, bk269_532, bk269_538, bk269_545, bk269_541, bk269_546, bk269_552, bk269_559, bk269_555, bk269_560, bk269_563, bk269_1439, bk269_1433, nI_add, Nat.reduceAdd, Option.bind_some, bct_v, bct_t, otl_s, otl_n, List.cons_append, List.nil_append, List.getElem?_cons_zero, List.getElem?_cons_succ, ↓reduceIte]
  · by_cases e3 : xs (i + 3) = nI 0
    · obtain ⟨th, v, v', S', w2, w3, g3, hB, hv, a1, km, rr, a2, km3, ht, ho, h3⟩ := both (as := [.int (xs (i + 1)), .int (nI 1), .int (nI 0)]) oI_f (wr_turn (xs (i + 1)) (nI 1) (nI 0)) (fun ok => j_turn ok (xs (i + 1)) true false) h
      have a1 : am_x 254 [.ref x, .int (xs (i + 1)), .int (nI 1), .int (nI 0), .ref u] w = _ := a1
      have t1 := rr (i + 1) (by omega)
      have t2 := rr (i + 2) (by omega)
      have t3 := rr (i + 3) (by omega)
      refine ⟨S', w3, g3, ?_, h3⟩
      simp only [r1, r2, r3, t1, t2, t3, a1, km, a2, e2, e3, bk269_484, bk269_491, bk269_497, bk269_504, bk269_500, bk269_505, bk269_511, bk269_518, bk269_514, bk269_519, bk269_523, bk269_532, bk269_538, bk269_545, bk269_541, bk269_546, bk269_552, bk269_559, bk269_555, bk269_560, bk269_563, bk269_1439, bk269_1433, nI_add, Nat.reduceAdd, Option.bind_some, bct_v, bct_t, otl_s, otl_n, List.cons_append, List.nil_append, List.getElem?_cons_zero, List.getElem?_cons_succ, ↓reduceIte]
    · obtain ⟨th, v, v', S', w2, w3, g3, hB, hv, a1, km, rr, a2, km3, ht, ho, h3⟩ := both (as := [.int (xs (i + 1)), .int (nI 1), .int (nI 1)]) oI_f (wr_turn (xs (i + 1)) (nI 1) (nI 1)) (fun ok => j_turn ok (xs (i + 1)) true true) h
      have a1 : am_x 254 [.ref x, .int (xs (i + 1)), .int (nI 1), .int (nI 1), .ref u] w = _ := a1
      have t1 := rr (i + 1) (by omega)
      have t2 := rr (i + 2) (by omega)
      have t3 := rr (i + 3) (by omega)
      refine ⟨S', w3, g3, ?_, h3⟩
      simp only [r1, r2, r3, t1, t2, t3, a1, km, a2, e2, e3, bk269_484, bk269_491, bk269_497, bk269_504, bk269_500, bk269_505, bk269_511, bk269_518, bk269_514, bk269_519, bk269_523, bk269_532, bk269_538, bk269_545, bk269_541, bk269_546, bk269_552, bk269_559, bk269_555, bk269_560, bk269_563, bk269_1439, bk269_1433, nI_add, Nat.reduceAdd, Option.bind_some, bct_v, bct_t, otl_s, otl_n, List.cons_append, List.nil_append, List.getElem?_cons_zero, List.getElem?_cons_succ, ↓reduceIte]

set_option maxHeartbeats 1000000 in
theorem lc_feel (h : LI b L xs x m u S w g k s) {i : Nat} (hi : i + 4 < L) : ∃ (S' : sS) (w' : am_Wd) (g' : Nat → Nat), am_run 269 568 [some (.ref b), some (.ref x), some (.ref m), some (.ref u), some (.int (nI i)), none, none, none] [] w = am_run 269 27 [some (.ref b), some (.ref x), some (.ref m), some (.ref u), some (.int (nI (i + 5))), none, none, none] [] w' ∧ LI b L xs x m u S' w' g' (k + 600) (s + 13200) := by
  have hb := h.2.2.2.2.2.1
  obtain ⟨kd, hr, cp, br, n, ws, mi, nd, dr, me, di, re⟩ := S
  have r1 := rd hb (i := i + 1) (by omega)
  have r2 := rd hb (i := i + 2) (by omega)
  by_cases e2 : xs (i + 2) = nI 0
  · obtain ⟨th, v, v', S', w2, w3, g3, hB, hv, a1, km, rr, a2, km3, ht, ho, h3⟩ := both (as := [.int (xs (i + 1)), .int (nI 0)]) oI_f (wr_feel (xs (i + 1)) (nI 0)) (fun ok => j_feel ok (xs (i + 1)) false) h
    have a1 : am_x 255 [.ref x, .int (xs (i + 1)), .int (nI 0), .ref u] w = _ := a1
    have t1 := rr (i + 1) (by omega)
    have t2 := rr (i + 2) (by omega)
    refine ⟨S', w3, g3, ?_, h3⟩
    simp only [r1, r2, t1, t2, a1, km, a2, e2, bk269_568, bk269_575, bk269_581, bk269_588, bk269_584, bk269_589, bk269_593, bk269_602, bk269_608, bk269_615, bk269_611, bk269_616, bk269_619, bk269_1439, bk269_1433, nI_add, Nat.reduceAdd, Option.bind_some, bct_v, bct_t, otl_s, otl_n, List.cons_append, List.nil_append, List.getElem?_cons_zero, List.getElem?_cons_succ, ↓reduceIte]
  · obtain ⟨th, v, v', S', w2, w3, g3, hB, hv, a1, km, rr, a2, km3, ht, ho, h3⟩ := both (as := [.int (xs (i + 1)), .int (nI 1)]) oI_f (wr_feel (xs (i + 1)) (nI 1)) (fun ok => j_feel ok (xs (i + 1)) true) h
    have a1 : am_x 255 [.ref x, .int (xs (i + 1)), .int (nI 1), .ref u] w = _ := a1
    have t1 := rr (i + 1) (by omega)
    have t2 := rr (i + 2) (by omega)
    refine ⟨S', w3, g3, ?_, h3⟩
    simp only [r1, r2, t1, t2, a1, km, a2, e2, bk269_568, bk269_575, bk269_581, bk269_588, bk269_584, bk269_589, bk269_593, bk269_602, bk269_608, bk269_615, bk269_611, bk269_616, bk269_619, bk269_1439, bk269_1433, nI_add, Nat.reduceAdd, Option.bind_some, bct_v, bct_t, otl_s, otl_n, List.cons_append, List.nil_append, List.getElem?_cons_zero, List.getElem?_cons_succ, ↓reduceIte]

set_option maxHeartbeats 1000000 in
theorem lc_listen (h : LI b L xs x m u S w g k s) {i : Nat} (hi : i + 4 < L) : ∃ (S' : sS) (w' : am_Wd) (g' : Nat → Nat), am_run 269 624 [some (.ref b), some (.ref x), some (.ref m), some (.ref u), some (.int (nI i)), none, none, none] [] w = am_run 269 27 [some (.ref b), some (.ref x), some (.ref m), some (.ref u), some (.int (nI (i + 5))), none, none, none] [] w' ∧ LI b L xs x m u S' w' g' (k + 600) (s + 13200) := by
  have hb := h.2.2.2.2.2.1
  obtain ⟨kd, hr, cp, br, n, ws, mi, nd, dr, me, di, re⟩ := S
  have r1 := rd hb (i := i + 1) (by omega)
  have r2 := rd hb (i := i + 2) (by omega)
  by_cases e2 : xs (i + 2) = nI 0
  · obtain ⟨th, v, v', S', w2, w3, g3, hB, hv, a1, km, rr, a2, km3, ht, ho, h3⟩ := both (as := [.int (xs (i + 1)), .int (nI 0)]) oI_f (wr_listen (xs (i + 1)) (nI 0)) (fun ok => j_listen ok (xs (i + 1)) false) h
    have a1 : am_x 256 [.ref x, .int (xs (i + 1)), .int (nI 0), .ref u] w = _ := a1
    have t1 := rr (i + 1) (by omega)
    have t2 := rr (i + 2) (by omega)
    refine ⟨S', w3, g3, ?_, h3⟩
    simp only [r1, r2, t1, t2, a1, km, a2, e2, bk269_624, bk269_631, bk269_637, bk269_644, bk269_640, bk269_645, bk269_649, bk269_658, bk269_664, bk269_671, bk269_667, bk269_672, bk269_675, bk269_1439, bk269_1433, nI_add, Nat.reduceAdd, Option.bind_some, bct_v, bct_t, otl_s, otl_n, List.cons_append, List.nil_append, List.getElem?_cons_zero, List.getElem?_cons_succ, ↓reduceIte]
  · obtain ⟨th, v, v', S', w2, w3, g3, hB, hv, a1, km, rr, a2, km3, ht, ho, h3⟩ := both (as := [.int (xs (i + 1)), .int (nI 1)]) oI_f (wr_listen (xs (i + 1)) (nI 1)) (fun ok => j_listen ok (xs (i + 1)) true) h
    have a1 : am_x 256 [.ref x, .int (xs (i + 1)), .int (nI 1), .ref u] w = _ := a1
    have t1 := rr (i + 1) (by omega)
    have t2 := rr (i + 2) (by omega)
    refine ⟨S', w3, g3, ?_, h3⟩
    simp only [r1, r2, t1, t2, a1, km, a2, e2, bk269_624, bk269_631, bk269_637, bk269_644, bk269_640, bk269_645, bk269_649, bk269_658, bk269_664, bk269_671, bk269_667, bk269_672, bk269_675, bk269_1439, bk269_1433, nI_add, Nat.reduceAdd, Option.bind_some, bct_v, bct_t, otl_s, otl_n, List.cons_append, List.nil_append, List.getElem?_cons_zero, List.getElem?_cons_succ, ↓reduceIte]

set_option maxHeartbeats 1000000 in
theorem lc_charge (h : LI b L xs x m u S w g k s) {i : Nat} (hi : i + 4 < L) : ∃ (S' : sS) (w' : am_Wd) (g' : Nat → Nat), am_run 269 680 [some (.ref b), some (.ref x), some (.ref m), some (.ref u), some (.int (nI i)), none, none, none] [] w = am_run 269 27 [some (.ref b), some (.ref x), some (.ref m), some (.ref u), some (.int (nI (i + 5))), none, none, none] [] w' ∧ LI b L xs x m u S' w' g' (k + 600) (s + 13200) := by
  have hb := h.2.2.2.2.2.1
  obtain ⟨kd, hr, cp, br, n, ws, mi, nd, dr, me, di, re⟩ := S
  have r1 := rd hb (i := i + 1) (by omega)
  have r2 := rd hb (i := i + 2) (by omega)
  obtain ⟨th, v, v', S', w2, w3, g3, hB, hv, a1, km, rr, a2, km3, ht, ho, h3⟩ := both (as := [.int (xs (i + 1)), .int (xs (i + 2))]) oI_f (wr_charge (xs (i + 1)) (xs (i + 2))) (fun ok => j_charge ok (xs (i + 1)) (xs (i + 2))) h
  have a1 : am_x 187 [.ref x, .int (xs (i + 1)), .int (xs (i + 2)), .ref u] w = _ := a1
  have t1 := rr (i + 1) (by omega)
  have t2 := rr (i + 2) (by omega)
  refine ⟨S', w3, g3, ?_, h3⟩
  simp only [r1, r2, t1, t2, a1, km, a2, bk269_680, bk269_687, bk269_693, bk269_697, bk269_706, bk269_712, bk269_715, bk269_1439, bk269_1433, nI_add, Nat.reduceAdd, Option.bind_some, bct_v, bct_t, otl_s, otl_n, List.cons_append, List.nil_append, List.getElem?_cons_zero, List.getElem?_cons_succ, ↓reduceIte]

set_option maxHeartbeats 1000000 in
theorem lc_tellPose (h : LI b L xs x m u S w g k s) {i : Nat} (hi : i + 4 < L) : ∃ (S' : sS) (w' : am_Wd) (g' : Nat → Nat), am_run 269 720 [some (.ref b), some (.ref x), some (.ref m), some (.ref u), some (.int (nI i)), none, none, none] [] w = am_run 269 27 [some (.ref b), some (.ref x), some (.ref m), some (.ref u), some (.int (nI (i + 5))), none, none, none] [] w' ∧ LI b L xs x m u S' w' g' (k + 600) (s + 13200) := by
  have hb := h.2.2.2.2.2.1
  obtain ⟨kd, hr, cp, br, n, ws, mi, nd, dr, me, di, re⟩ := S
  have r1 := rd hb (i := i + 1) (by omega)
  obtain ⟨th, v, v', S', w2, w3, g3, hB, hv, a1, km, rr, a2, km3, ht, ho, h3⟩ := both (as := [.int (xs (i + 1))]) oI_f (wr_tellPose (xs (i + 1))) (fun ok => j_tellPose ok (xs (i + 1))) h
  have a1 : am_x 188 [.ref x, .int (xs (i + 1)), .ref u] w = _ := a1
  have t1 := rr (i + 1) (by omega)
  refine ⟨S', w3, g3, ?_, h3⟩
  simp only [r1, t1, a1, km, a2, bk269_720, bk269_727, bk269_731, bk269_740, bk269_743, bk269_1439, bk269_1433, nI_add, Nat.reduceAdd, Option.bind_some, bct_v, bct_t, otl_s, otl_n, List.cons_append, List.nil_append, List.getElem?_cons_zero, List.getElem?_cons_succ, ↓reduceIte]

set_option maxHeartbeats 1000000 in
theorem lc_meet (h : LI b L xs x m u S w g k s) {i : Nat} (hi : i + 4 < L) : ∃ (S' : sS) (w' : am_Wd) (g' : Nat → Nat), am_run 269 748 [some (.ref b), some (.ref x), some (.ref m), some (.ref u), some (.int (nI i)), none, none, none] [] w = am_run 269 27 [some (.ref b), some (.ref x), some (.ref m), some (.ref u), some (.int (nI (i + 5))), none, none, none] [] w' ∧ LI b L xs x m u S' w' g' (k + 600) (s + 13200) := by
  have hb := h.2.2.2.2.2.1
  obtain ⟨kd, hr, cp, br, n, ws, mi, nd, dr, me, di, re⟩ := S
  have r1 := rd hb (i := i + 1) (by omega)
  have r2 := rd hb (i := i + 2) (by omega)
  obtain ⟨th, v, v', S', w2, w3, g3, hB, hv, a1, km, rr, a2, km3, ht, ho, h3⟩ := both (as := [.int (xs (i + 1)), .int (xs (i + 2))]) oI_f (wr_meet (xs (i + 1)) (xs (i + 2))) (fun ok => j_meet ok (xs (i + 1)) (xs (i + 2))) h
  have a1 : am_x 218 [.ref x, .int (xs (i + 1)), .int (xs (i + 2)), .ref u] w = _ := a1
  have t1 := rr (i + 1) (by omega)
  have t2 := rr (i + 2) (by omega)
  refine ⟨S', w3, g3, ?_, h3⟩
  simp only [r1, r2, t1, t2, a1, km, a2, bk269_748, bk269_755, bk269_761, bk269_765, bk269_774, bk269_780, bk269_783, bk269_1439, bk269_1433, nI_add, Nat.reduceAdd, Option.bind_some, bct_v, bct_t, otl_s, otl_n, List.cons_append, List.nil_append, List.getElem?_cons_zero, List.getElem?_cons_succ, ↓reduceIte]

set_option maxHeartbeats 1000000 in
theorem lc_pass (h : LI b L xs x m u S w g k s) {i : Nat} (hi : i + 4 < L) : ∃ (S' : sS) (w' : am_Wd) (g' : Nat → Nat), am_run 269 788 [some (.ref b), some (.ref x), some (.ref m), some (.ref u), some (.int (nI i)), none, none, none] [] w = am_run 269 27 [some (.ref b), some (.ref x), some (.ref m), some (.ref u), some (.int (nI (i + 5))), none, none, none] [] w' ∧ LI b L xs x m u S' w' g' (k + 600) (s + 13200) := by
  have hb := h.2.2.2.2.2.1
  obtain ⟨kd, hr, cp, br, n, ws, mi, nd, dr, me, di, re⟩ := S
  have r1 := rd hb (i := i + 1) (by omega)
  obtain ⟨th, v, v', S', w2, w3, g3, hB, hv, a1, km, rr, a2, km3, ht, ho, h3⟩ := both (as := [.int (xs (i + 1))]) oI_f (wr_pass (xs (i + 1))) (fun ok => j_pass ok (xs (i + 1))) h
  have a1 : am_x 189 [.ref x, .int (xs (i + 1)), .ref u] w = _ := a1
  have t1 := rr (i + 1) (by omega)
  refine ⟨S', w3, g3, ?_, h3⟩
  simp only [r1, t1, a1, km, a2, bk269_788, bk269_795, bk269_799, bk269_808, bk269_811, bk269_1439, bk269_1433, nI_add, Nat.reduceAdd, Option.bind_some, bct_v, bct_t, otl_s, otl_n, List.cons_append, List.nil_append, List.getElem?_cons_zero, List.getElem?_cons_succ, ↓reduceIte]

set_option maxHeartbeats 1000000 in
theorem lc_call (h : LI b L xs x m u S w g k s) {i : Nat} (hi : i + 4 < L) : ∃ (S' : sS) (w' : am_Wd) (g' : Nat → Nat), am_run 269 816 [some (.ref b), some (.ref x), some (.ref m), some (.ref u), some (.int (nI i)), none, none, none] [] w = am_run 269 27 [some (.ref b), some (.ref x), some (.ref m), some (.ref u), some (.int (nI (i + 5))), none, none, none] [] w' ∧ LI b L xs x m u S' w' g' (k + 600) (s + 13200) := by
  have hb := h.2.2.2.2.2.1
  obtain ⟨kd, hr, cp, br, n, ws, mi, nd, dr, me, di, re⟩ := S
  obtain ⟨v, S', w2, w3, g3, kx, a1, km, a2, h3⟩ := both0 (fun ok => j_call ok) h
  refine ⟨S', w3, g3, ?_, h3⟩
  simp only [kx, a1, km, a2, cmp_s, bk269_816, bk269_820, bk269_825, bk269_1439, bk269_1433, nI_add, Nat.reduceAdd, Option.bind_some, bct_v, bct_t, otl_s, otl_n, List.cons_append, List.nil_append, List.getElem?_cons_zero, List.getElem?_cons_succ, ↓reduceIte]

set_option maxHeartbeats 1000000 in
theorem lc_ofEdge (h : LI b L xs x m u S w g k s) {i : Nat} (hi : i + 4 < L) : ∃ (S' : sS) (w' : am_Wd) (g' : Nat → Nat), am_run 269 829 [some (.ref b), some (.ref x), some (.ref m), some (.ref u), some (.int (nI i)), none, none, none] [] w = am_run 269 27 [some (.ref b), some (.ref x), some (.ref m), some (.ref u), some (.int (nI (i + 5))), none, none, none] [] w' ∧ LI b L xs x m u S' w' g' (k + 600) (s + 13200) := by
  have hb := h.2.2.2.2.2.1
  obtain ⟨kd, hr, cp, br, n, ws, mi, nd, dr, me, di, re⟩ := S
  have r1 := rd hb (i := i + 1) (by omega)
  have r2 := rd hb (i := i + 2) (by omega)
  have r3 := rd hb (i := i + 3) (by omega)
  obtain ⟨th, v, v', S', w2, w3, g3, hB, hv, a1, km, rr, a2, km3, ht, ho, h3⟩ := both (as := [.int (xs (i + 1)), .int (xs (i + 2)), .int (xs (i + 3))]) oI_f (wr_ofEdge (xs (i + 1)) (xs (i + 2)) (xs (i + 3))) (fun ok => j_ofEdge ok (xs (i + 1)) (xs (i + 2)) (xs (i + 3))) h
  have a1 : am_x 219 [.ref x, .int (xs (i + 1)), .int (xs (i + 2)), .int (xs (i + 3)), .ref u] w = _ := a1
  have t1 := rr (i + 1) (by omega)
  have t2 := rr (i + 2) (by omega)
  have t3 := rr (i + 3) (by omega)
  refine ⟨S', w3, g3, ?_, h3⟩
  simp only [r1, r2, r3, t1, t2, t3, a1, km, a2, bk269_829, bk269_836, bk269_842, bk269_848, bk269_852, bk269_861, bk269_867, bk269_873, bk269_876, bk269_1439, bk269_1433, nI_add, Nat.reduceAdd, Option.bind_some, bct_v, bct_t, otl_s, otl_n, List.cons_append, List.nil_append, List.getElem?_cons_zero, List.getElem?_cons_succ, ↓reduceIte]

set_option maxHeartbeats 1000000 in
theorem lc_ofWalker (h : LI b L xs x m u S w g k s) {i : Nat} (hi : i + 4 < L) : ∃ (S' : sS) (w' : am_Wd) (g' : Nat → Nat), am_run 269 881 [some (.ref b), some (.ref x), some (.ref m), some (.ref u), some (.int (nI i)), none, none, none] [] w = am_run 269 27 [some (.ref b), some (.ref x), some (.ref m), some (.ref u), some (.int (nI (i + 5))), none, none, none] [] w' ∧ LI b L xs x m u S' w' g' (k + 600) (s + 13200) := by
  have hb := h.2.2.2.2.2.1
  obtain ⟨kd, hr, cp, br, n, ws, mi, nd, dr, me, di, re⟩ := S
  have r1 := rd hb (i := i + 1) (by omega)
  have r2 := rd hb (i := i + 2) (by omega)
  obtain ⟨th, v, v', S', w2, w3, g3, hB, hv, a1, km, rr, a2, km3, ht, ho, h3⟩ := both (as := [.int (xs (i + 1)), .int (xs (i + 2))]) oI_f (wr_ofWalker (xs (i + 1)) (xs (i + 2))) (fun ok => j_ofWalker ok (xs (i + 1)) (xs (i + 2))) h
  have a1 : am_x 234 [.ref x, .int (xs (i + 1)), .int (xs (i + 2)), .ref u] w = _ := a1
  have t1 := rr (i + 1) (by omega)
  have t2 := rr (i + 2) (by omega)
  refine ⟨S', w3, g3, ?_, h3⟩
  simp only [r1, r2, t1, t2, a1, km, a2, bk269_881, bk269_888, bk269_894, bk269_898, bk269_907, bk269_913, bk269_916, bk269_1439, bk269_1433, nI_add, Nat.reduceAdd, Option.bind_some, bct_v, bct_t, otl_s, otl_n, List.cons_append, List.nil_append, List.getElem?_cons_zero, List.getElem?_cons_succ, ↓reduceIte]

set_option maxHeartbeats 1000000 in
theorem lc_house (h : LI b L xs x m u S w g k s) {i : Nat} (hi : i + 4 < L) : ∃ (S' : sS) (w' : am_Wd) (g' : Nat → Nat), am_run 269 921 [some (.ref b), some (.ref x), some (.ref m), some (.ref u), some (.int (nI i)), none, none, none] [] w = am_run 269 27 [some (.ref b), some (.ref x), some (.ref m), some (.ref u), some (.int (nI (i + 5))), none, none, none] [] w' ∧ LI b L xs x m u S' w' g' (k + 600) (s + 13200) := by
  have hb := h.2.2.2.2.2.1
  obtain ⟨kd, hr, cp, br, n, ws, mi, nd, dr, me, di, re⟩ := S
  have r1 := rd hb (i := i + 1) (by omega)
  obtain ⟨th, v, v', S', w2, w3, g3, hB, hv, a1, km, rr, a2, km3, ht, ho, h3⟩ := both (as := [.int (xs (i + 1))]) oI_f (wr_house (xs (i + 1))) (fun ok => j_house ok (xs (i + 1))) h
  have a1 : am_x 190 [.ref x, .int (xs (i + 1)), .ref u] w = _ := a1
  have t1 := rr (i + 1) (by omega)
  refine ⟨S', w3, g3, ?_, h3⟩
  simp only [r1, t1, a1, km, a2, bk269_921, bk269_928, bk269_932, bk269_941, bk269_944, bk269_1439, bk269_1433, nI_add, Nat.reduceAdd, Option.bind_some, bct_v, bct_t, otl_s, otl_n, List.cons_append, List.nil_append, List.getElem?_cons_zero, List.getElem?_cons_succ, ↓reduceIte]

set_option maxHeartbeats 1000000 in
theorem lc_row (h : LI b L xs x m u S w g k s) {i : Nat} (hi : i + 4 < L) : ∃ (S' : sS) (w' : am_Wd) (g' : Nat → Nat), am_run 269 949 [some (.ref b), some (.ref x), some (.ref m), some (.ref u), some (.int (nI i)), none, none, none] [] w = am_run 269 27 [some (.ref b), some (.ref x), some (.ref m), some (.ref u), some (.int (nI (i + 5))), none, none, none] [] w' ∧ LI b L xs x m u S' w' g' (k + 600) (s + 13200) := by
  have hb := h.2.2.2.2.2.1
  obtain ⟨kd, hr, cp, br, n, ws, mi, nd, dr, me, di, re⟩ := S
  have r1 := rd hb (i := i + 1) (by omega)
  obtain ⟨th, v, w2, w3, g3, hB, a1, km, rr, a2, km3, ht, hs, h3⟩ := bothR (z := xs (i + 1)) (fun ok => j_row ok _) h
  have t1 := rr (i + 1) (by omega)
  refine ⟨_, w3, g3, ?_, h3⟩
  have x266 : am_x 266 [.ref m] w3 = some (.inl (some (.int (nI th))), w3) := by
    simp only [bx266, bk266_0, ht, bk266_4, Option.bind_some, bct_v, bct_t, otl_s, otl_n, List.cons_append, List.nil_append, List.getElem?_cons_zero, List.getElem?_cons_succ, ↓reduceIte]
  by_cases z0 : th = 0
  · obtain ⟨v1, T, gO, s1, s2⟩ := hs z0
    subst z0
    have kS := kf_tS s1
    have xe := eq_tS s1 s2 (by decide)
    simp only [r1, t1, a1, km, a2, km3, x266, not_true_eq_false, not_false_eq_true, gO, kS, xe, n10, bk269_949, bk269_956, bk269_960, bk269_969, bk269_972, bk269_978, bk269_985, bk269_983, bk269_1004, bk269_990, bk269_994, bk269_999, bk269_1002, bk269_1439, bk269_1433, nI_add, Nat.reduceAdd, Option.bind_some, bct_v, bct_t, otl_s, otl_n, List.cons_append, List.nil_append, List.getElem?_cons_zero, List.getElem?_cons_succ, ↓reduceIte]
  · have z1 : (nI th = nI 0) = False := by rw [nI_eqS (by omega) (by decide)]; exact eq_false z0
    simp only [r1, t1, a1, km, a2, km3, x266, z1, not_false_eq_true, bk269_949, bk269_956, bk269_960, bk269_969, bk269_972, bk269_978, bk269_985, bk269_983, bk269_1004, bk269_990, bk269_994, bk269_999, bk269_1002, bk269_1439, bk269_1433, nI_add, Nat.reduceAdd, Option.bind_some, bct_v, bct_t, otl_s, otl_n, List.cons_append, List.nil_append, List.getElem?_cons_zero, List.getElem?_cons_succ, ↓reduceIte]

set_option maxHeartbeats 1000000 in
theorem lc_map (h : LI b L xs x m u S w g k s) {i : Nat} (hi : i + 4 < L) : ∃ (S' : sS) (w' : am_Wd) (g' : Nat → Nat), am_run 269 1007 [some (.ref b), some (.ref x), some (.ref m), some (.ref u), some (.int (nI i)), none, none, none] [] w = am_run 269 27 [some (.ref b), some (.ref x), some (.ref m), some (.ref u), some (.int (nI (i + 5))), none, none, none] [] w' ∧ LI b L xs x m u S' w' g' (k + 600) (s + 13200) := by
  have hb := h.2.2.2.2.2.1
  obtain ⟨kd, hr, cp, br, n, ws, mi, nd, dr, me, di, re⟩ := S
  have r1 := rd hb (i := i + 1) (by omega)
  have r2 := rd hb (i := i + 2) (by omega)
  have r3 := rd hb (i := i + 3) (by omega)
  obtain ⟨th, v, v', S', w2, w3, g3, hB, hv, a1, km, rr, a2, km3, ht, ho, h3⟩ := both (as := [.int (xs (i + 1)), .int (xs (i + 2)), .int (xs (i + 3))]) oI_f (wr_map (xs (i + 1)) (xs (i + 2)) (xs (i + 3))) (fun ok => j_map ok (xs (i + 1)) (xs (i + 2)) (xs (i + 3))) h
  have a1 : am_x 191 [.ref x, .int (xs (i + 1)), .int (xs (i + 2)), .int (xs (i + 3)), .ref u] w = _ := a1
  have t1 := rr (i + 1) (by omega)
  have t2 := rr (i + 2) (by omega)
  have t3 := rr (i + 3) (by omega)
  refine ⟨S', w3, g3, ?_, h3⟩
  simp only [r1, r2, r3, t1, t2, t3, a1, km, a2, bk269_1007, bk269_1014, bk269_1020, bk269_1026, bk269_1030, bk269_1039, bk269_1045, bk269_1051, bk269_1054, bk269_1439, bk269_1433, nI_add, Nat.reduceAdd, Option.bind_some, bct_v, bct_t, otl_s, otl_n, List.cons_append, List.nil_append, List.getElem?_cons_zero, List.getElem?_cons_succ, ↓reduceIte]

set_option maxHeartbeats 1000000 in
theorem lc_may (h : LI b L xs x m u S w g k s) {i : Nat} (hi : i + 4 < L) : ∃ (S' : sS) (w' : am_Wd) (g' : Nat → Nat), am_run 269 1059 [some (.ref b), some (.ref x), some (.ref m), some (.ref u), some (.int (nI i)), none, none, none] [] w = am_run 269 27 [some (.ref b), some (.ref x), some (.ref m), some (.ref u), some (.int (nI (i + 5))), none, none, none] [] w' ∧ LI b L xs x m u S' w' g' (k + 600) (s + 13200) := by
  have hb := h.2.2.2.2.2.1
  obtain ⟨kd, hr, cp, br, n, ws, mi, nd, dr, me, di, re⟩ := S
  have r1 := rd hb (i := i + 1) (by omega)
  have r2 := rd hb (i := i + 2) (by omega)
  obtain ⟨th, v, v', S', w2, w3, g3, hB, hv, a1, km, rr, a2, km3, ht, ho, h3⟩ := both (as := [.int (xs (i + 1)), .int (xs (i + 2))]) oZ_f (wr_may (xs (i + 1)) (xs (i + 2))) (fun ok => j_may ok (xs (i + 1)) (xs (i + 2))) h
  have a1 : am_x 192 [.ref x, .int (xs (i + 1)), .int (xs (i + 2)), .ref u] w = _ := a1
  have t1 := rr (i + 1) (by omega)
  have t2 := rr (i + 2) (by omega)
  refine ⟨S', w3, g3, ?_, h3⟩
  simp only [r1, r2, t1, t2, a1, km, a2, bk269_1059, bk269_1066, bk269_1072, bk269_1076, bk269_1085, bk269_1091, bk269_1094, bk269_1439, bk269_1433, nI_add, Nat.reduceAdd, Option.bind_some, bct_v, bct_t, otl_s, otl_n, List.cons_append, List.nil_append, List.getElem?_cons_zero, List.getElem?_cons_succ, ↓reduceIte]

set_option maxHeartbeats 1000000 in
theorem lc_where (h : LI b L xs x m u S w g k s) {i : Nat} (hi : i + 4 < L) : ∃ (S' : sS) (w' : am_Wd) (g' : Nat → Nat), am_run 269 1099 [some (.ref b), some (.ref x), some (.ref m), some (.ref u), some (.int (nI i)), none, none, none] [] w = am_run 269 27 [some (.ref b), some (.ref x), some (.ref m), some (.ref u), some (.int (nI (i + 5))), none, none, none] [] w' ∧ LI b L xs x m u S' w' g' (k + 600) (s + 13200) := by
  have hb := h.2.2.2.2.2.1
  obtain ⟨kd, hr, cp, br, n, ws, mi, nd, dr, me, di, re⟩ := S
  have r1 := rd hb (i := i + 1) (by omega)
  have r2 := rd hb (i := i + 2) (by omega)
  obtain ⟨th, v, v', S', w2, w3, g3, hB, hv, a1, km, rr, a2, km3, ht, ho, h3⟩ := both (as := [.int (xs (i + 1)), .int (xs (i + 2))]) oJ_f (wr_where (xs (i + 1)) (xs (i + 2))) (fun ok => j_where ok (xs (i + 1)) (xs (i + 2))) h
  have a1 : am_x 193 [.ref x, .int (xs (i + 1)), .int (xs (i + 2)), .ref u] w = _ := a1
  have t1 := rr (i + 1) (by omega)
  have t2 := rr (i + 2) (by omega)
  refine ⟨S', w3, g3, ?_, h3⟩
  simp only [r1, r2, t1, t2, a1, km, a2, bk269_1099, bk269_1106, bk269_1112, bk269_1116, bk269_1125, bk269_1131, bk269_1134, bk269_1439, bk269_1433, nI_add, Nat.reduceAdd, Option.bind_some, bct_v, bct_t, otl_s, otl_n, List.cons_append, List.nil_append, List.getElem?_cons_zero, List.getElem?_cons_succ, ↓reduceIte]

set_option maxHeartbeats 1000000 in
theorem lc_way (h : LI b L xs x m u S w g k s) {i : Nat} (hi : i + 4 < L) : ∃ (S' : sS) (w' : am_Wd) (g' : Nat → Nat), am_run 269 1139 [some (.ref b), some (.ref x), some (.ref m), some (.ref u), some (.int (nI i)), none, none, none] [] w = am_run 269 27 [some (.ref b), some (.ref x), some (.ref m), some (.ref u), some (.int (nI (i + 5))), none, none, none] [] w' ∧ LI b L xs x m u S' w' g' (k + 600) (s + 13200) := by
  have hb := h.2.2.2.2.2.1
  obtain ⟨kd, hr, cp, br, n, ws, mi, nd, dr, me, di, re⟩ := S
  have r1 := rd hb (i := i + 1) (by omega)
  have r2 := rd hb (i := i + 2) (by omega)
  have r3 := rd hb (i := i + 3) (by omega)
  obtain ⟨th, v, v', S', w2, w3, g3, hB, hv, a1, km, rr, a2, km3, ht, ho, h3⟩ := both (as := [.int (xs (i + 1)), .int (xs (i + 2)), .int (xs (i + 3))]) oI_f (wr_way (xs (i + 1)) (xs (i + 2)) (xs (i + 3))) (fun ok => j_way ok (xs (i + 1)) (xs (i + 2)) (xs (i + 3))) h
  have a1 : am_x 194 [.ref x, .int (xs (i + 1)), .int (xs (i + 2)), .int (xs (i + 3)), .ref u] w = _ := a1
  have t1 := rr (i + 1) (by omega)
  have t2 := rr (i + 2) (by omega)
  have t3 := rr (i + 3) (by omega)
  refine ⟨S', w3, g3, ?_, h3⟩
  simp only [r1, r2, r3, t1, t2, t3, a1, km, a2, bk269_1139, bk269_1146, bk269_1152, bk269_1158, bk269_1162, bk269_1171, bk269_1177, bk269_1183, bk269_1186, bk269_1439, bk269_1433, nI_add, Nat.reduceAdd, Option.bind_some, bct_v, bct_t, otl_s, otl_n, List.cons_append, List.nil_append, List.getElem?_cons_zero, List.getElem?_cons_succ, ↓reduceIte]

set_option maxHeartbeats 1000000 in
theorem lc_safety (h : LI b L xs x m u S w g k s) {i : Nat} (hi : i + 4 < L) : ∃ (S' : sS) (w' : am_Wd) (g' : Nat → Nat), am_run 269 1191 [some (.ref b), some (.ref x), some (.ref m), some (.ref u), some (.int (nI i)), none, none, none] [] w = am_run 269 27 [some (.ref b), some (.ref x), some (.ref m), some (.ref u), some (.int (nI (i + 5))), none, none, none] [] w' ∧ LI b L xs x m u S' w' g' (k + 600) (s + 13200) := by
  have hb := h.2.2.2.2.2.1
  obtain ⟨kd, hr, cp, br, n, ws, mi, nd, dr, me, di, re⟩ := S
  have r1 := rd hb (i := i + 1) (by omega)
  have r2 := rd hb (i := i + 2) (by omega)
  obtain ⟨th, v, v', S', w2, w3, g3, hB, hv, a1, km, rr, a2, km3, ht, ho, h3⟩ := both (as := [.int (xs (i + 1)), .int (xs (i + 2))]) oI_f (wr_safety (xs (i + 1)) (xs (i + 2))) (fun ok => j_safety ok (xs (i + 1)) (xs (i + 2))) h
  have a1 : am_x 249 [.ref x, .int (xs (i + 1)), .int (xs (i + 2)), .ref u] w = _ := a1
  have t1 := rr (i + 1) (by omega)
  have t2 := rr (i + 2) (by omega)
  refine ⟨S', w3, g3, ?_, h3⟩
  simp only [r1, r2, t1, t2, a1, km, a2, bk269_1191, bk269_1198, bk269_1204, bk269_1208, bk269_1217, bk269_1223, bk269_1226, bk269_1439, bk269_1433, nI_add, Nat.reduceAdd, Option.bind_some, bct_v, bct_t, otl_s, otl_n, List.cons_append, List.nil_append, List.getElem?_cons_zero, List.getElem?_cons_succ, ↓reduceIte]

set_option maxHeartbeats 1000000 in
theorem lc_doubt (h : LI b L xs x m u S w g k s) {i : Nat} (hi : i + 4 < L) : ∃ (S' : sS) (w' : am_Wd) (g' : Nat → Nat), am_run 269 1231 [some (.ref b), some (.ref x), some (.ref m), some (.ref u), some (.int (nI i)), none, none, none] [] w = am_run 269 27 [some (.ref b), some (.ref x), some (.ref m), some (.ref u), some (.int (nI (i + 5))), none, none, none] [] w' ∧ LI b L xs x m u S' w' g' (k + 600) (s + 13200) := by
  have hb := h.2.2.2.2.2.1
  obtain ⟨kd, hr, cp, br, n, ws, mi, nd, dr, me, di, re⟩ := S
  have r1 := rd hb (i := i + 1) (by omega)
  obtain ⟨th, v, v', S', w2, w3, g3, hB, hv, a1, km, rr, a2, km3, ht, ho, h3⟩ := both (as := [.int (xs (i + 1))]) oD_f (wr_doubt (xs (i + 1))) (fun ok => j_doubt ok (xs (i + 1))) h
  have a1 : am_x 148 [.ref x, .int (xs (i + 1)), .ref u] w = _ := a1
  have t1 := rr (i + 1) (by omega)
  refine ⟨S', w3, g3, ?_, h3⟩
  simp only [r1, t1, a1, km, a2, bk269_1231, bk269_1238, bk269_1242, bk269_1251, bk269_1254, bk269_1439, bk269_1433, nI_add, Nat.reduceAdd, Option.bind_some, bct_v, bct_t, otl_s, otl_n, List.cons_append, List.nil_append, List.getElem?_cons_zero, List.getElem?_cons_succ, ↓reduceIte]

set_option maxHeartbeats 1000000 in
theorem lc_worst (h : LI b L xs x m u S w g k s) {i : Nat} (hi : i + 4 < L) : ∃ (S' : sS) (w' : am_Wd) (g' : Nat → Nat), am_run 269 1259 [some (.ref b), some (.ref x), some (.ref m), some (.ref u), some (.int (nI i)), none, none, none] [] w = am_run 269 27 [some (.ref b), some (.ref x), some (.ref m), some (.ref u), some (.int (nI (i + 5))), none, none, none] [] w' ∧ LI b L xs x m u S' w' g' (k + 600) (s + 13200) := by
  have hb := h.2.2.2.2.2.1
  obtain ⟨kd, hr, cp, br, n, ws, mi, nd, dr, me, di, re⟩ := S
  have r1 := rd hb (i := i + 1) (by omega)
  have r2 := rd hb (i := i + 2) (by omega)
  obtain ⟨th, v, v', S', w2, w3, g3, hB, hv, a1, km, rr, a2, km3, ht, ho, h3⟩ := both (as := [.int (xs (i + 1)), .int (xs (i + 2))]) oI_f (wr_worst (xs (i + 1)) (xs (i + 2))) (fun ok => j_worst ok (xs (i + 1)) (xs (i + 2))) h
  have a1 : am_x 235 [.ref x, .int (xs (i + 1)), .int (xs (i + 2)), .ref u] w = _ := a1
  have t1 := rr (i + 1) (by omega)
  have t2 := rr (i + 2) (by omega)
  refine ⟨S', w3, g3, ?_, h3⟩
  simp only [r1, r2, t1, t2, a1, km, a2, bk269_1259, bk269_1266, bk269_1272, bk269_1276, bk269_1285, bk269_1291, bk269_1294, bk269_1439, bk269_1433, nI_add, Nat.reduceAdd, Option.bind_some, bct_v, bct_t, otl_s, otl_n, List.cons_append, List.nil_append, List.getElem?_cons_zero, List.getElem?_cons_succ, ↓reduceIte]

set_option maxHeartbeats 1000000 in
theorem lc_best (h : LI b L xs x m u S w g k s) {i : Nat} (hi : i + 4 < L) : ∃ (S' : sS) (w' : am_Wd) (g' : Nat → Nat), am_run 269 1299 [some (.ref b), some (.ref x), some (.ref m), some (.ref u), some (.int (nI i)), none, none, none] [] w = am_run 269 27 [some (.ref b), some (.ref x), some (.ref m), some (.ref u), some (.int (nI (i + 5))), none, none, none] [] w' ∧ LI b L xs x m u S' w' g' (k + 600) (s + 13200) := by
  have hb := h.2.2.2.2.2.1
  obtain ⟨kd, hr, cp, br, n, ws, mi, nd, dr, me, di, re⟩ := S
  have r1 := rd hb (i := i + 1) (by omega)
  obtain ⟨th, v, v', S', w2, w3, g3, hB, hv, a1, km, rr, a2, km3, ht, ho, h3⟩ := both (as := [.int (xs (i + 1))]) oI_f (wr_best (xs (i + 1))) (fun ok => j_best ok (xs (i + 1))) h
  have a1 : am_x 236 [.ref x, .int (xs (i + 1)), .ref u] w = _ := a1
  have t1 := rr (i + 1) (by omega)
  refine ⟨S', w3, g3, ?_, h3⟩
  simp only [r1, t1, a1, km, a2, bk269_1299, bk269_1306, bk269_1310, bk269_1319, bk269_1322, bk269_1439, bk269_1433, nI_add, Nat.reduceAdd, Option.bind_some, bct_v, bct_t, otl_s, otl_n, List.cons_append, List.nil_append, List.getElem?_cons_zero, List.getElem?_cons_succ, ↓reduceIte]

set_option maxHeartbeats 1000000 in
theorem lc_wouldFeel (h : LI b L xs x m u S w g k s) {i : Nat} (hi : i + 4 < L) : ∃ (S' : sS) (w' : am_Wd) (g' : Nat → Nat), am_run 269 1327 [some (.ref b), some (.ref x), some (.ref m), some (.ref u), some (.int (nI i)), none, none, none] [] w = am_run 269 27 [some (.ref b), some (.ref x), some (.ref m), some (.ref u), some (.int (nI (i + 5))), none, none, none] [] w' ∧ LI b L xs x m u S' w' g' (k + 600) (s + 13200) := by
  have hb := h.2.2.2.2.2.1
  obtain ⟨kd, hr, cp, br, n, ws, mi, nd, dr, me, di, re⟩ := S
  have r1 := rd hb (i := i + 1) (by omega)
  have r2 := rd hb (i := i + 2) (by omega)
  obtain ⟨th, v, v', S', w2, w3, g3, hB, hv, a1, km, rr, a2, km3, ht, ho, h3⟩ := both (as := [.int (xs (i + 1)), .int (xs (i + 2))]) oI_f (wr_wouldFeel (xs (i + 1)) (xs (i + 2))) (fun ok => j_wouldFeel ok (xs (i + 1)) (xs (i + 2))) h
  have a1 : am_x 220 [.ref x, .int (xs (i + 1)), .int (xs (i + 2)), .ref u] w = _ := a1
  have t1 := rr (i + 1) (by omega)
  have t2 := rr (i + 2) (by omega)
  refine ⟨S', w3, g3, ?_, h3⟩
  simp only [r1, r2, t1, t2, a1, km, a2, bk269_1327, bk269_1334, bk269_1340, bk269_1344, bk269_1353, bk269_1359, bk269_1362, bk269_1439, bk269_1433, nI_add, Nat.reduceAdd, Option.bind_some, bct_v, bct_t, otl_s, otl_n, List.cons_append, List.nil_append, List.getElem?_cons_zero, List.getElem?_cons_succ, ↓reduceIte]

set_option maxHeartbeats 1000000 in
theorem lc_wouldBe (h : LI b L xs x m u S w g k s) {i : Nat} (hi : i + 4 < L) : ∃ (S' : sS) (w' : am_Wd) (g' : Nat → Nat), am_run 269 1367 [some (.ref b), some (.ref x), some (.ref m), some (.ref u), some (.int (nI i)), none, none, none] [] w = am_run 269 27 [some (.ref b), some (.ref x), some (.ref m), some (.ref u), some (.int (nI (i + 5))), none, none, none] [] w' ∧ LI b L xs x m u S' w' g' (k + 600) (s + 13200) := by
  have hb := h.2.2.2.2.2.1
  obtain ⟨kd, hr, cp, br, n, ws, mi, nd, dr, me, di, re⟩ := S
  have r1 := rd hb (i := i + 1) (by omega)
  have r2 := rd hb (i := i + 2) (by omega)
  obtain ⟨th, v, v', S', w2, w3, g3, hB, hv, a1, km, rr, a2, km3, ht, ho, h3⟩ := both (as := [.int (xs (i + 1)), .int (xs (i + 2))]) oI_f (wr_wouldBe (xs (i + 1)) (xs (i + 2))) (fun ok => j_wouldBe ok (xs (i + 1)) (xs (i + 2))) h
  have a1 : am_x 237 [.ref x, .int (xs (i + 1)), .int (xs (i + 2)), .ref u] w = _ := a1
  have t1 := rr (i + 1) (by omega)
  have t2 := rr (i + 2) (by omega)
  refine ⟨S', w3, g3, ?_, h3⟩
  simp only [r1, r2, t1, t2, a1, km, a2, bk269_1367, bk269_1374, bk269_1380, bk269_1384, bk269_1393, bk269_1399, bk269_1402, bk269_1439, bk269_1433, nI_add, Nat.reduceAdd, Option.bind_some, bct_v, bct_t, otl_s, otl_n, List.cons_append, List.nil_append, List.getElem?_cons_zero, List.getElem?_cons_succ, ↓reduceIte]

set_option maxHeartbeats 1000000 in
theorem lc_isSound (h : LI b L xs x m u S w g k s) {i : Nat} (hi : i + 4 < L) : ∃ (S' : sS) (w' : am_Wd) (g' : Nat → Nat), am_run 269 1407 [some (.ref b), some (.ref x), some (.ref m), some (.ref u), some (.int (nI i)), none, none, none] [] w = am_run 269 27 [some (.ref b), some (.ref x), some (.ref m), some (.ref u), some (.int (nI (i + 5))), none, none, none] [] w' ∧ LI b L xs x m u S' w' g' (k + 600) (s + 13200) := by
  have hb := h.2.2.2.2.2.1
  obtain ⟨kd, hr, cp, br, n, ws, mi, nd, dr, me, di, re⟩ := S
  obtain ⟨v, S', w2, w3, g3, kx, a1, km, a2, h3⟩ := both0 (fun ok => j_isSound ok) h
  refine ⟨S', w3, g3, ?_, h3⟩
  simp only [kx, a1, km, a2, cmp_s, bk269_1407, bk269_1411, bk269_1416, bk269_1439, bk269_1433, nI_add, Nat.reduceAdd, Option.bind_some, bct_v, bct_t, otl_s, otl_n, List.cons_append, List.nil_append, List.getElem?_cons_zero, List.getElem?_cons_succ, ↓reduceIte]

set_option maxHeartbeats 1000000 in
theorem lc_digest (h : LI b L xs x m u S w g k s) {i : Nat} (hi : i + 4 < L) : ∃ (S' : sS) (w' : am_Wd) (g' : Nat → Nat), am_run 269 1420 [some (.ref b), some (.ref x), some (.ref m), some (.ref u), some (.int (nI i)), none, none, none] [] w = am_run 269 27 [some (.ref b), some (.ref x), some (.ref m), some (.ref u), some (.int (nI (i + 5))), none, none, none] [] w' ∧ LI b L xs x m u S' w' g' (k + 600) (s + 13200) := by
  have hb := h.2.2.2.2.2.1
  obtain ⟨kd, hr, cp, br, n, ws, mi, nd, dr, me, di, re⟩ := S
  obtain ⟨v, S', w2, w3, g3, kx, a1, km, a2, h3⟩ := both0 (fun ok => j_digest ok) h
  refine ⟨S', w3, g3, ?_, h3⟩
  simp only [kx, a1, km, a2, cmp_s, bk269_1420, bk269_1424, bk269_1429, bk269_1439, bk269_1433, nI_add, Nat.reduceAdd, Option.bind_some, bct_v, bct_t, otl_s, otl_n, List.cons_append, List.nil_append, List.getElem?_cons_zero, List.getElem?_cons_succ, ↓reduceIte]

end LC
end
section
/-! THE LAW'S LOOP. Laid by wip/gen/lawc.py. Mine. -/
section LP
variable {w : am_Wd} {g : Nat → Nat} {x m u b L : Nat} {xs : Nat → Int32} {S : sS} {k s : Nat}
theorem sub5 {L i : Nat} (hL : L ≤ 2560) (hi : i ≤ 2565) : (nI L - nI 5 < nI i) = (L < i + 5) := by
  by_cases h : 5 ≤ L
  · rw [nI_subS h, nI_ltS (by omega) (by omega)]
    exact propext ⟨fun q => by omega, fun q => by omega⟩
  · have z : nI 0 ≤ nI i := by rw [nI_leS (by decide) (by omega)]; exact Nat.zero_le i
    refine propext ⟨fun _ => by omega, fun _ => ?_⟩
    have y : ∀ j : Fin 5, nI j.val - nI 5 < nI 0 := by decide +kernel
    exact Int32.lt_of_lt_of_le (y ⟨L, by omega⟩) z
set_option maxHeartbeats 1000000 in
theorem lc_all (h : LI b L xs x m u S w g k s) {i : Nat} (hi : i + 4 < L) : ∃ (S' : sS) (w' : am_Wd) (g' : Nat → Nat), am_run 269 27 [some (.ref b), some (.ref x), some (.ref m), some (.ref u), some (.int (nI i)), none, none, none] [] w = am_run 269 27 [some (.ref b), some (.ref x), some (.ref m), some (.ref u), some (.int (nI (i + 5))), none, none, none] [] w' ∧ LI b L xs x m u S' w' g' (k + 600) (s + 13200) := by
  have hb := h.2.2.2.2.2.1
  have r0 := rd hb (i := i) (by omega)
  have ln := lenI hb.1 (by decide)
  have hL := hb.2.2.2
  have q5 : (nI L - nI 5 < nI i) = False := by rw [sub5 hL (by omega)]; exact eq_false (by omega)
  have st : am_run 269 27 [some (.ref b), some (.ref x), some (.ref m), some (.ref u), some (.int (nI i)), none, none, none] [] w = am_run 269 40 [some (.ref b), some (.ref x), some (.ref m), some (.ref u), some (.int (nI i)), none, none, none] [.int (xs i)] w := by
    simp only [bk269_27, bk269_31, bk269_36, ln, q5, r0, Option.bind_some, bct_v, bct_t, otl_s, otl_n, List.cons_append, List.nil_append, List.getElem?_cons_zero, List.getElem?_cons_succ, ↓reduceIte]
  rw [st, bk269_40]
  by_cases c0 : (xs i &&& nI 31) = nI 0
  · rw [if_pos c0]; exact lc_edge h hi
  rw [if_neg c0]
  by_cases c1 : (xs i &&& nI 31) = nI 1
  · rw [if_pos c1]; exact lc_lay h hi
  rw [if_neg c1]
  by_cases c2 : (xs i &&& nI 31) = nI 2
  · rw [if_pos c2]; exact lc_cell h hi
  rw [if_neg c2]
  by_cases c3 : (xs i &&& nI 31) = nI 3
  · rw [if_pos c3]; exact lc_walker h hi
  rw [if_neg c3]
  by_cases c4 : (xs i &&& nI 31) = nI 4
  · rw [if_pos c4]; exact lc_forward h hi
  rw [if_neg c4]
  by_cases c5 : (xs i &&& nI 31) = nI 5
  · rw [if_pos c5]; exact lc_turn h hi
  rw [if_neg c5]
  by_cases c6 : (xs i &&& nI 31) = nI 6
  · rw [if_pos c6]; exact lc_feel h hi
  rw [if_neg c6]
  by_cases c7 : (xs i &&& nI 31) = nI 7
  · rw [if_pos c7]; exact lc_listen h hi
  rw [if_neg c7]
  by_cases c8 : (xs i &&& nI 31) = nI 8
  · rw [if_pos c8]; exact lc_charge h hi
  rw [if_neg c8]
  by_cases c9 : (xs i &&& nI 31) = nI 9
  · rw [if_pos c9]; exact lc_tellPose h hi
  rw [if_neg c9]
  by_cases c10 : (xs i &&& nI 31) = nI 10
  · rw [if_pos c10]; exact lc_meet h hi
  rw [if_neg c10]
  by_cases c11 : (xs i &&& nI 31) = nI 11
  · rw [if_pos c11]; exact lc_pass h hi
  rw [if_neg c11]
  by_cases c12 : (xs i &&& nI 31) = nI 12
  · rw [if_pos c12]; exact lc_call h hi
  rw [if_neg c12]
  by_cases c13 : (xs i &&& nI 31) = nI 13
  · rw [if_pos c13]; exact lc_ofEdge h hi
  rw [if_neg c13]
  by_cases c14 : (xs i &&& nI 31) = nI 14
  · rw [if_pos c14]; exact lc_ofWalker h hi
  rw [if_neg c14]
  by_cases c15 : (xs i &&& nI 31) = nI 15
  · rw [if_pos c15]; exact lc_house h hi
  rw [if_neg c15]
  by_cases c16 : (xs i &&& nI 31) = nI 16
  · rw [if_pos c16]; exact lc_row h hi
  rw [if_neg c16]
  by_cases c17 : (xs i &&& nI 31) = nI 17
  · rw [if_pos c17]; exact lc_map h hi
  rw [if_neg c17]
  by_cases c18 : (xs i &&& nI 31) = nI 18
  · rw [if_pos c18]; exact lc_may h hi
  rw [if_neg c18]
  by_cases c19 : (xs i &&& nI 31) = nI 19
  · rw [if_pos c19]; exact lc_where h hi
  rw [if_neg c19]
  by_cases c20 : (xs i &&& nI 31) = nI 20
  · rw [if_pos c20]; exact lc_way h hi
  rw [if_neg c20]
  by_cases c21 : (xs i &&& nI 31) = nI 21
  · rw [if_pos c21]; exact lc_safety h hi
  rw [if_neg c21]
  by_cases c22 : (xs i &&& nI 31) = nI 22
  · rw [if_pos c22]; exact lc_doubt h hi
  rw [if_neg c22]
  by_cases c23 : (xs i &&& nI 31) = nI 23
  · rw [if_pos c23]; exact lc_worst h hi
  rw [if_neg c23]
  by_cases c24 : (xs i &&& nI 31) = nI 24
  · rw [if_pos c24]; exact lc_best h hi
  rw [if_neg c24]
  by_cases c25 : (xs i &&& nI 31) = nI 25
  · rw [if_pos c25]; exact lc_wouldFeel h hi
  rw [if_neg c25]
  by_cases c26 : (xs i &&& nI 31) = nI 26
  · rw [if_pos c26]; exact lc_wouldBe h hi
  rw [if_neg c26]
  by_cases c27 : (xs i &&& nI 31) = nI 27
  · rw [if_pos c27]; exact lc_isSound h hi
  rw [if_neg c27]
  by_cases c28 : (xs i &&& nI 31) = nI 28
  · rw [if_pos c28]; exact lc_digest h hi
  rw [if_neg c28]
  refine ⟨S, w, g, ?_, li_wk h (by omega) (by omega)⟩
  simp only [bk269_1439, bk269_1433, nI_add, Option.bind_some, bct_v, bct_t, otl_s, otl_n, List.cons_append, List.nil_append, List.getElem?_cons_zero, List.getElem?_cons_succ, ↓reduceIte]
theorem law_go : ∀ (f i : Nat) (S : sS) (w : am_Wd) (g : Nat → Nat) (k s : Nat), L < i + 5 * f + 5 → i ≤ 2560 → LI b L xs x m u S w g k s → ∃ w', am_run 269 27 [some (.ref b), some (.ref x), some (.ref m), some (.ref u), some (.int (nI i)), none, none, none] [] w = some (.inl (some (.int (nI 1))), w') ∧ w'.2.1 ≤ k + 600 * f ∧ w'.2.2.1 ≤ s + 13200 * f := by
  have stop : ∀ (i : Nat) (S : sS) (w : am_Wd) (g : Nat → Nat) (k s : Nat), L < i + 5 → i ≤ 2560 → LI b L xs x m u S w g k s → am_run 269 27 [some (.ref b), some (.ref x), some (.ref m), some (.ref u), some (.int (nI i)), none, none, none] [] w = some (.inl (some (.int (nI 1))), w) := by
    intro i S w g k s hL hi h
    have hb := h.2.2.2.2.2.1
    have ln := lenI hb.1 (by decide)
    have q5 : (nI L - nI 5 < nI i) = True := by rw [sub5 hb.2.2.2 (by omega)]; exact eq_true hL
    simp only [bk269_27, bk269_31, bk269_36, bk269_1439, ln, q5, Option.bind_some, bct_v, bct_t, otl_s, otl_n, List.cons_append, List.nil_append, List.getElem?_cons_zero, List.getElem?_cons_succ, ↓reduceIte]
  intro f
  induction f with
  | zero =>
    intro i S w g k s hL hi h
    exact ⟨w, stop i S w g k s (by omega) hi h, by have := h.2.2.2.2.2.2.2.2.1; omega, by have := h.2.2.2.2.2.2.2.2.2; omega⟩
  | succ f ih =>
    intro i S w g k s hL hi h
    by_cases q : L < i + 5
    · exact ⟨w, stop i S w g k s q hi h, by have := h.2.2.2.2.2.2.2.2.1; omega, by have := h.2.2.2.2.2.2.2.2.2; omega⟩
    · have hb := h.2.2.2.2.2.1
      obtain ⟨S', w', g', t, h'⟩ := lc_all h (i := i) (by omega)
      obtain ⟨w2, t2, l1, l2⟩ := ih (i + 5) S' w' g' _ _ (by omega) (by have := hb.2.2.2; omega) h'
      exact ⟨w2, t.trans t2, by omega, by omega⟩
end LP
end
