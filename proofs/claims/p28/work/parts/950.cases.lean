section
/-! THE LAW, case by case. Laid by wip/gen/lawc.py. Mine. -/
theorem cmp_s (v : Int64) : lg_cmp v v = nI 0 := by
  unfold lg_cmp
  simp [Int64.lt_irrefl]
  try rfl
section LC
variable {w : am_Wd} {g : Nat → Nat} {x m u b L : Nat} {xs : Nat → Int32} {S : sS} {k s : Nat}

set_option maxHeartbeats 1000000 in
theorem lc_edge (h : LI b L xs x m u S w g k s) {i : Nat} (hi : i + 4 < L) : ∃ (S' : sS) (w' : am_Wd) (g' : Nat → Nat), am_run 267 172 [some (.ref b), some (.ref x), some (.ref m), some (.ref u), some (.int (nI i)), none, none, none] [] w = am_run 267 27 [some (.ref b), some (.ref x), some (.ref m), some (.ref u), some (.int (nI (i + 5))), none, none, none] [] w' ∧ LI b L xs x m u S' w' g' (k + 600) (s + 13200) := by
  have hb := h.2.2.2.2.2.1
  obtain ⟨kd, hr, cp, br, n, ws, mi, nd, dr, me, di, re⟩ := S
  have r1 := rd hb (i := i + 1) (by omega)
  have r2 := rd hb (i := i + 2) (by omega)
  have r3 := rd hb (i := i + 3) (by omega)
  have r4 := rd hb (i := i + 4) (by omega)
  obtain ⟨th, v, v', S', w2, w3, g3, hB, hv, a1, km, rr, a2, km3, ht, ho, h3⟩ := both (as := [.int (xs (i + 1)), .int (xs (i + 2)), .int (xs (i + 3)), .int (xs (i + 4))]) oI_f (wr_edge (xs (i + 1)) (xs (i + 2)) (xs (i + 3)) (xs (i + 4))) (fun ok => j_edge ok (xs (i + 1)) (xs (i + 2)) (xs (i + 3)) (xs (i + 4))) h
  have a1 : am_x 216 [.ref x, .int (xs (i + 1)), .int (xs (i + 2)), .int (xs (i + 3)), .int (xs (i + 4)), .ref u] w = _ := a1
  have t1 := rr (i + 1) (by omega)
  have t2 := rr (i + 2) (by omega)
  have t3 := rr (i + 3) (by omega)
  have t4 := rr (i + 4) (by omega)
  refine ⟨S', w3, g3, ?_, h3⟩
  simp only [r1, r2, r3, r4, t1, t2, t3, t4, a1, km, a2, bk267_172, bk267_179, bk267_185, bk267_191, bk267_197, bk267_201, bk267_210, bk267_216, bk267_222, bk267_228, bk267_231, bk267_1438, bk267_1432, nI_add, Nat.reduceAdd, Option.bind_some, bct_v, bct_t, otl_s, otl_n, List.cons_append, List.nil_append, List.getElem?_cons_zero, List.getElem?_cons_succ, ↓reduceIte]

set_option maxHeartbeats 1000000 in
theorem lc_lay (h : LI b L xs x m u S w g k s) {i : Nat} (hi : i + 4 < L) : ∃ (S' : sS) (w' : am_Wd) (g' : Nat → Nat), am_run 267 236 [some (.ref b), some (.ref x), some (.ref m), some (.ref u), some (.int (nI i)), none, none, none] [] w = am_run 267 27 [some (.ref b), some (.ref x), some (.ref m), some (.ref u), some (.int (nI (i + 5))), none, none, none] [] w' ∧ LI b L xs x m u S' w' g' (k + 600) (s + 13200) := by
  have hb := h.2.2.2.2.2.1
  obtain ⟨kd, hr, cp, br, n, ws, mi, nd, dr, me, di, re⟩ := S
  have r1 := rd hb (i := i + 1) (by omega)
  obtain ⟨th, v, v', S', w2, w3, g3, hB, hv, a1, km, rr, a2, km3, ht, ho, h3⟩ := both (as := [.int (xs (i + 1))]) oI_f (wr_lay (xs (i + 1))) (fun ok => j_lay ok (xs (i + 1))) h
  have a1 : am_x 233 [.ref x, .int (xs (i + 1)), .ref u] w = _ := a1
  have t1 := rr (i + 1) (by omega)
  refine ⟨S', w3, g3, ?_, h3⟩
  simp only [r1, t1, a1, km, a2, bk267_236, bk267_243, bk267_247, bk267_256, bk267_259, bk267_1438, bk267_1432, nI_add, Nat.reduceAdd, Option.bind_some, bct_v, bct_t, otl_s, otl_n, List.cons_append, List.nil_append, List.getElem?_cons_zero, List.getElem?_cons_succ, ↓reduceIte]

set_option maxHeartbeats 1000000 in
theorem lc_cell (h : LI b L xs x m u S w g k s) {i : Nat} (hi : i + 4 < L) : ∃ (S' : sS) (w' : am_Wd) (g' : Nat → Nat), am_run 267 264 [some (.ref b), some (.ref x), some (.ref m), some (.ref u), some (.int (nI i)), none, none, none] [] w = am_run 267 27 [some (.ref b), some (.ref x), some (.ref m), some (.ref u), some (.int (nI (i + 5))), none, none, none] [] w' ∧ LI b L xs x m u S' w' g' (k + 600) (s + 13200) := by
  have hb := h.2.2.2.2.2.1
  obtain ⟨kd, hr, cp, br, n, ws, mi, nd, dr, me, di, re⟩ := S
  have r1 := rd hb (i := i + 1) (by omega)
  have r2 := rd hb (i := i + 2) (by omega)
  have r3 := rd hb (i := i + 3) (by omega)
  by_cases e2 : xs (i + 2) = nI 0
  · by_cases e3 : xs (i + 3) = nI 0
    · obtain ⟨th, v, v', S', w2, w3, g3, hB, hv, a1, km, rr, a2, km3, ht, ho, h3⟩ := both (as := [.int (xs (i + 1)), .int (nI 0), .int (nI 0)]) oI_f (wr_cell (xs (i + 1)) (nI 0) (nI 0)) (fun ok => j_cell ok (xs (i + 1)) false false) h
      have a1 : am_x 147 [.ref x, .int (xs (i + 1)), .int (nI 0), .int (nI 0), .ref u] w = _ := a1
      have t1 := rr (i + 1) (by omega)
      have t2 := rr (i + 2) (by omega)
      have t3 := rr (i + 3) (by omega)
      refine ⟨S', w3, g3, ?_, h3⟩
      simp only [r1, r2, r3, t1, t2, t3, a1, km, a2, e2, e3, bk267_264, bk267_271, bk267_277, bk267_284, bk267_280, bk267_285, bk267_291, bk267_298, bk267_294, bk267_299, bk267_303, bk267_312, bk267_318, bk267_325, bk267_321, bk267_326, bk267_332, bk267_339, bk267_335, bk267_340, bk267_343, bk267_1438, bk267_1432, nI_add, Nat.reduceAdd, Option.bind_some, bct_v, bct_t, otl_s, otl_n, List.cons_append, List.nil_append, List.getElem?_cons_zero, List.getElem?_cons_succ, ↓reduceIte]
    · obtain ⟨th, v, v', S', w2, w3, g3, hB, hv, a1, km, rr, a2, km3, ht, ho, h3⟩ := both (as := [.int (xs (i + 1)), .int (nI 0), .int (nI 1)]) oI_f (wr_cell (xs (i + 1)) (nI 0) (nI 1)) (fun ok => j_cell ok (xs (i + 1)) false true) h
      have a1 : am_x 147 [.ref x, .int (xs (i + 1)), .int (nI 0), .int (nI 1), .ref u] w = _ := a1
      have t1 := rr (i + 1) (by omega)
      have t2 := rr (i + 2) (by omega)
      have t3 := rr (i + 3) (by omega)
      refine ⟨S', w3, g3, ?_, h3⟩
      simp only [r1, r2, r3, t1, t2, t3, a1, km, a2, e2, e3, bk267_264, bk267_271, bk267_277, bk267_284, bk267_280, bk267_285, bk267_291, bk267_298, bk267_294, bk267_299, bk267_303, bk267_312, bk267_318, bk267_325, bk267_321, bk267_326, bk267_332, bk267_339, bk267_335, bk267_340, bk267_343, bk267_1438, bk267_1432, nI_add, Nat.reduceAdd, Option.bind_some, bct_v, bct_t, otl_s, otl_n, List.cons_append, List.nil_append, List.getElem?_cons_zero, List.getElem?_cons_succ, ↓reduceIte]
  · by_cases e3 : xs (i + 3) = nI 0
    · obtain ⟨th, v, v', S', w2, w3, g3, hB, hv, a1, km, rr, a2, km3, ht, ho, h3⟩ := both (as := [.int (xs (i + 1)), .int (nI 1), .int (nI 0)]) oI_f (wr_cell (xs (i + 1)) (nI 1) (nI 0)) (fun ok => j_cell ok (xs (i + 1)) true false) h
      have a1 : am_x 147 [.ref x, .int (xs (i + 1)), .int (nI 1), .int (nI 0), .ref u] w = _ := a1
      have t1 := rr (i + 1) (by omega)
      have t2 := rr (i + 2) (by omega)
      have t3 := rr (i + 3) (by omega)
      refine ⟨S', w3, g3, ?_, h3⟩
      simp only [r1, r2, r3, t1, t2, t3, a1, km, a2, e2, e3, bk267_264, bk267_271, bk267_277, bk267_284, bk267_280, bk267_285, bk267_291, bk267_298, bk267_294, bk267_299, bk267_303, bk267_312, bk267_318, bk267_325, bk267_321, bk267_326, bk267_332, bk267_339, bk267_335, bk267_340, bk267_343, bk267_1438, bk267_1432, nI_add, Nat.reduceAdd, Option.bind_some, bct_v, bct_t, otl_s, otl_n, List.cons_append, List.nil_append, List.getElem?_cons_zero, List.getElem?_cons_succ, ↓reduceIte]
    · obtain ⟨th, v, v', S', w2, w3, g3, hB, hv, a1, km, rr, a2, km3, ht, ho, h3⟩ := both (as := [.int (xs (i + 1)), .int (nI 1), .int (nI 1)]) oI_f (wr_cell (xs (i + 1)) (nI 1) (nI 1)) (fun ok => j_cell ok (xs (i + 1)) true true) h
      have a1 : am_x 147 [.ref x, .int (xs (i + 1)), .int (nI 1), .int (nI 1), .ref u] w = _ := a1
      have t1 := rr (i + 1) (by omega)
      have t2 := rr (i + 2) (by omega)
      have t3 := rr (i + 3) (by omega)
      refine ⟨S', w3, g3, ?_, h3⟩
      simp only [r1, r2, r3, t1, t2, t3, a1, km, a2, e2, e3, bk267_264, bk267_271, bk267_277, bk267_284, bk267_280, bk267_285, bk267_291, bk267_298, bk267_294, bk267_299, bk267_303, bk267_312, bk267_318, bk267_325, bk267_321, bk267_326, bk267_332, bk267_339, bk267_335, bk267_340, bk267_343, bk267_1438, bk267_1432, nI_add, Nat.reduceAdd, Option.bind_some, bct_v, bct_t, otl_s, otl_n, List.cons_append, List.nil_append, List.getElem?_cons_zero, List.getElem?_cons_succ, ↓reduceIte]

set_option maxHeartbeats 1000000 in
theorem lc_walker (h : LI b L xs x m u S w g k s) {i : Nat} (hi : i + 4 < L) : ∃ (S' : sS) (w' : am_Wd) (g' : Nat → Nat), am_run 267 348 [some (.ref b), some (.ref x), some (.ref m), some (.ref u), some (.int (nI i)), none, none, none] [] w = am_run 267 27 [some (.ref b), some (.ref x), some (.ref m), some (.ref u), some (.int (nI (i + 5))), none, none, none] [] w' ∧ LI b L xs x m u S' w' g' (k + 600) (s + 13200) := by
  have hb := h.2.2.2.2.2.1
  obtain ⟨kd, hr, cp, br, n, ws, mi, nd, dr, me, di, re⟩ := S
  have r1 := rd hb (i := i + 1) (by omega)
  have r2 := rd hb (i := i + 2) (by omega)
  have r3 := rd hb (i := i + 3) (by omega)
  have r4 := rd hb (i := i + 4) (by omega)
  by_cases e4 : xs (i + 4) = nI 0
  · obtain ⟨th, v, v', S', w2, w3, g3, hB, hv, a1, km, rr, a2, km3, ht, ho, h3⟩ := both (as := [.int (xs (i + 1)), .int (xs (i + 2)), .int (xs (i + 3)), .int (nI 0)]) oI_f (wr_walker (xs (i + 1)) (xs (i + 2)) (xs (i + 3)) (nI 0)) (fun ok => j_walker ok (xs (i + 1)) (xs (i + 2)) (xs (i + 3)) false) h
    have a1 : am_x 217 [.ref x, .int (xs (i + 1)), .int (xs (i + 2)), .int (xs (i + 3)), .int (nI 0), .ref u] w = _ := a1
    have t1 := rr (i + 1) (by omega)
    have t2 := rr (i + 2) (by omega)
    have t3 := rr (i + 3) (by omega)
    have t4 := rr (i + 4) (by omega)
    refine ⟨S', w3, g3, ?_, h3⟩
    simp only [r1, r2, r3, r4, t1, t2, t3, t4, a1, km, a2, e4, bk267_348, bk267_355, bk267_361, bk267_367, bk267_373, bk267_380, bk267_376, bk267_381, bk267_385, bk267_394, bk267_400, bk267_406, bk267_412, bk267_419, bk267_415, bk267_420, bk267_423, bk267_1438, bk267_1432, nI_add, Nat.reduceAdd, Option.bind_some, bct_v, bct_t, otl_s, otl_n, List.cons_append, List.nil_append, List.getElem?_cons_zero, List.getElem?_cons_succ, ↓reduceIte]
  · obtain ⟨th, v, v', S', w2, w3, g3, hB, hv, a1, km, rr, a2, km3, ht, ho, h3⟩ := both (as := [.int (xs (i + 1)), .int (xs (i + 2)), .int (xs (i + 3)), .int (nI 1)]) oI_f (wr_walker (xs (i + 1)) (xs (i + 2)) (xs (i + 3)) (nI 1)) (fun ok => j_walker ok (xs (i + 1)) (xs (i + 2)) (xs (i + 3)) true) h
    have a1 : am_x 217 [.ref x, .int (xs (i + 1)), .int (xs (i + 2)), .int (xs (i + 3)), .int (nI 1), .ref u] w = _ := a1
    have t1 := rr (i + 1) (by omega)
    have t2 := rr (i + 2) (by omega)
    have t3 := rr (i + 3) (by omega)
    have t4 := rr (i + 4) (by omega)
    refine ⟨S', w3, g3, ?_, h3⟩
    simp only [r1, r2, r3, r4, t1, t2, t3, t4, a1, km, a2, e4, bk267_348, bk267_355, bk267_361, bk267_367, bk267_373, bk267_380, bk267_376, bk267_381, bk267_385, bk267_394, bk267_400, bk267_406, bk267_412, bk267_419, bk267_415, bk267_420, bk267_423, bk267_1438, bk267_1432, nI_add, Nat.reduceAdd, Option.bind_some, bct_v, bct_t, otl_s, otl_n, List.cons_append, List.nil_append, List.getElem?_cons_zero, List.getElem?_cons_succ, ↓reduceIte]

set_option maxHeartbeats 1000000 in
theorem lc_forward (h : LI b L xs x m u S w g k s) {i : Nat} (hi : i + 4 < L) : ∃ (S' : sS) (w' : am_Wd) (g' : Nat → Nat), am_run 267 428 [some (.ref b), some (.ref x), some (.ref m), some (.ref u), some (.int (nI i)), none, none, none] [] w = am_run 267 27 [some (.ref b), some (.ref x), some (.ref m), some (.ref u), some (.int (nI (i + 5))), none, none, none] [] w' ∧ LI b L xs x m u S' w' g' (k + 600) (s + 13200) := by
  have hb := h.2.2.2.2.2.1
  obtain ⟨kd, hr, cp, br, n, ws, mi, nd, dr, me, di, re⟩ := S
  have r1 := rd hb (i := i + 1) (by omega)
  have r2 := rd hb (i := i + 2) (by omega)
  by_cases e2 : xs (i + 2) = nI 0
  · obtain ⟨th, v, v', S', w2, w3, g3, hB, hv, a1, km, rr, a2, km3, ht, ho, h3⟩ := both (as := [.int (xs (i + 1)), .int (nI 0)]) oZ_f (wr_forward (xs (i + 1)) (nI 0)) (fun ok => j_forward ok (xs (i + 1)) false) h
    have a1 : am_x 253 [.ref x, .int (xs (i + 1)), .int (nI 0), .ref u] w = _ := a1
    have t1 := rr (i + 1) (by omega)
    have t2 := rr (i + 2) (by omega)
    refine ⟨S', w3, g3, ?_, h3⟩
    simp only [r1, r2, t1, t2, a1, km, a2, e2, bk267_428, bk267_435, bk267_441, bk267_448, bk267_444, bk267_449, bk267_453, bk267_462, bk267_468, bk267_475, bk267_471, bk267_476, bk267_479, bk267_1438, bk267_1432, nI_add, Nat.reduceAdd, Option.bind_some, bct_v, bct_t, otl_s, otl_n, List.cons_append, List.nil_append, List.getElem?_cons_zero, List.getElem?_cons_succ, ↓reduceIte]
  · obtain ⟨th, v, v', S', w2, w3, g3, hB, hv, a1, km, rr, a2, km3, ht, ho, h3⟩ := both (as := [.int (xs (i + 1)), .int (nI 1)]) oZ_f (wr_forward (xs (i + 1)) (nI 1)) (fun ok => j_forward ok (xs (i + 1)) true) h
    have a1 : am_x 253 [.ref x, .int (xs (i + 1)), .int (nI 1), .ref u] w = _ := a1
    have t1 := rr (i + 1) (by omega)
    have t2 := rr (i + 2) (by omega)
    refine ⟨S', w3, g3, ?_, h3⟩
    simp only [r1, r2, t1, t2, a1, km, a2, e2, bk267_428, bk267_435, bk267_441, bk267_448, bk267_444, bk267_449, bk267_453, bk267_462, bk267_468, bk267_475, bk267_471, bk267_476, bk267_479, bk267_1438, bk267_1432, nI_add, Nat.reduceAdd, Option.bind_some, bct_v, bct_t, otl_s, otl_n, List.cons_append, List.nil_append, List.getElem?_cons_zero, List.getElem?_cons_succ, ↓reduceIte]

set_option maxHeartbeats 1000000 in
theorem lc_turn (h : LI b L xs x m u S w g k s) {i : Nat} (hi : i + 4 < L) : ∃ (S' : sS) (w' : am_Wd) (g' : Nat → Nat), am_run 267 484 [some (.ref b), some (.ref x), some (.ref m), some (.ref u), some (.int (nI i)), none, none, none] [] w = am_run 267 27 [some (.ref b), some (.ref x), some (.ref m), some (.ref u), some (.int (nI (i + 5))), none, none, none] [] w' ∧ LI b L xs x m u S' w' g' (k + 600) (s + 13200) := by
  have hb := h.2.2.2.2.2.1
  obtain ⟨kd, hr, cp, br, n, ws, mi, nd, dr, me, di, re⟩ := S
  have r1 := rd hb (i := i + 1) (by omega)
  have r2 := rd hb (i := i + 2) (by omega)
  have r3 := rd hb (i := i + 3) (by omega)
  by_cases e2 : xs (i + 2) = nI 0
  · by_cases e3 : xs (i + 3) = nI 0
    · obtain ⟨th, v, v', S', w2, w3, g3, hB, hv, a1, km, rr, a2, km3, ht, ho, h3⟩ := both (as := [.int (xs (i + 1)), .int (nI 0), .int (nI 0)]) oI_f (wr_turn (xs (i + 1)) (nI 0) (nI 0)) (fun ok => j_turn ok (xs (i + 1)) false false) h
      have a1 : am_x 254 [.ref x, .int (xs (i + 1)), .int (nI 0), .int (nI 0), .ref u] w = _ := a1
      have t1 := rr (i + 1) (by omega)
      have t2 := rr (i + 2) (by omega)
      have t3 := rr (i + 3) (by omega)
      refine ⟨S', w3, g3, ?_, h3⟩
      simp only [r1, r2, r3, t1, t2, t3, a1, km, a2, e2, e3, bk267_484, bk267_491, bk267_497, bk267_504, bk267_500, bk267_505, bk267_511, bk267_518, bk267_514, bk267_519, bk267_523, bk267_532, bk267_538, bk267_545, bk267_541, bk267_546, bk267_552, bk267_559, bk267_555, bk267_560, bk267_563, bk267_1438, bk267_1432, nI_add, Nat.reduceAdd, Option.bind_some, bct_v, bct_t, otl_s, otl_n, List.cons_append, List.nil_append, List.getElem?_cons_zero, List.getElem?_cons_succ, ↓reduceIte]
    · obtain ⟨th, v, v', S', w2, w3, g3, hB, hv, a1, km, rr, a2, km3, ht, ho, h3⟩ := both (as := [.int (xs (i + 1)), .int (nI 0), .int (nI 1)]) oI_f (wr_turn (xs (i + 1)) (nI 0) (nI 1)) (fun ok => j_turn ok (xs (i + 1)) false true) h
      have a1 : am_x 254 [.ref x, .int (xs (i + 1)), .int (nI 0), .int (nI 1), .ref u] w = _ := a1
      have t1 := rr (i + 1) (by omega)
      have t2 := rr (i + 2) (by omega)
      have t3 := rr (i + 3) (by omega)
      refine ⟨S', w3, g3, ?_, h3⟩
      simp only [r1, r2, r3, t1, t2, t3, a1, km, a2, e2, e3, bk267_484, bk267_491, bk267_497, bk267_504, bk267_500, bk267_505, bk267_511, bk267_518, bk267_514, bk267_519, bk267_523, bk267_532, bk267_538, bk267_545, bk267_541, bk267_546, bk267_552, bk267_559, bk267_555, bk267_560, bk267_563, bk267_1438, bk267_1432, nI_add, Nat.reduceAdd, Option.bind_some, bct_v, bct_t, otl_s, otl_n, List.cons_append, List.nil_append, List.getElem?_cons_zero, List.getElem?_cons_succ, ↓reduceIte]
  · by_cases e3 : xs (i + 3) = nI 0
    · obtain ⟨th, v, v', S', w2, w3, g3, hB, hv, a1, km, rr, a2, km3, ht, ho, h3⟩ := both (as := [.int (xs (i + 1)), .int (nI 1), .int (nI 0)]) oI_f (wr_turn (xs (i + 1)) (nI 1) (nI 0)) (fun ok => j_turn ok (xs (i + 1)) true false) h
      have a1 : am_x 254 [.ref x, .int (xs (i + 1)), .int (nI 1), .int (nI 0), .ref u] w = _ := a1
      have t1 := rr (i + 1) (by omega)
      have t2 := rr (i + 2) (by omega)
      have t3 := rr (i + 3) (by omega)
      refine ⟨S', w3, g3, ?_, h3⟩
      simp only [r1, r2, r3, t1, t2, t3, a1, km, a2, e2, e3, bk267_484, bk267_491, bk267_497, bk267_504, bk267_500, bk267_505, bk267_511, bk267_518, bk267_514, bk267_519, bk267_523, bk267_532, bk267_538, bk267_545, bk267_541, bk267_546, bk267_552, bk267_559, bk267_555, bk267_560, bk267_563, bk267_1438, bk267_1432, nI_add, Nat.reduceAdd, Option.bind_some, bct_v, bct_t, otl_s, otl_n, List.cons_append, List.nil_append, List.getElem?_cons_zero, List.getElem?_cons_succ, ↓reduceIte]
    · obtain ⟨th, v, v', S', w2, w3, g3, hB, hv, a1, km, rr, a2, km3, ht, ho, h3⟩ := both (as := [.int (xs (i + 1)), .int (nI 1), .int (nI 1)]) oI_f (wr_turn (xs (i + 1)) (nI 1) (nI 1)) (fun ok => j_turn ok (xs (i + 1)) true true) h
      have a1 : am_x 254 [.ref x, .int (xs (i + 1)), .int (nI 1), .int (nI 1), .ref u] w = _ := a1
      have t1 := rr (i + 1) (by omega)
      have t2 := rr (i + 2) (by omega)
      have t3 := rr (i + 3) (by omega)
      refine ⟨S', w3, g3, ?_, h3⟩
      simp only [r1, r2, r3, t1, t2, t3, a1, km, a2, e2, e3, bk267_484, bk267_491, bk267_497, bk267_504, bk267_500, bk267_505, bk267_511, bk267_518, bk267_514, bk267_519, bk267_523, bk267_532, bk267_538, bk267_545, bk267_541, bk267_546, bk267_552, bk267_559, bk267_555, bk267_560, bk267_563, bk267_1438, bk267_1432, nI_add, Nat.reduceAdd, Option.bind_some, bct_v, bct_t, otl_s, otl_n, List.cons_append, List.nil_append, List.getElem?_cons_zero, List.getElem?_cons_succ, ↓reduceIte]

set_option maxHeartbeats 1000000 in
theorem lc_feel (h : LI b L xs x m u S w g k s) {i : Nat} (hi : i + 4 < L) : ∃ (S' : sS) (w' : am_Wd) (g' : Nat → Nat), am_run 267 568 [some (.ref b), some (.ref x), some (.ref m), some (.ref u), some (.int (nI i)), none, none, none] [] w = am_run 267 27 [some (.ref b), some (.ref x), some (.ref m), some (.ref u), some (.int (nI (i + 5))), none, none, none] [] w' ∧ LI b L xs x m u S' w' g' (k + 600) (s + 13200) := by
  have hb := h.2.2.2.2.2.1
  obtain ⟨kd, hr, cp, br, n, ws, mi, nd, dr, me, di, re⟩ := S
  have r1 := rd hb (i := i + 1) (by omega)
  have r2 := rd hb (i := i + 2) (by omega)
  by_cases e2 : xs (i + 2) = nI 0
  · obtain ⟨th, v, v', S', w2, w3, g3, hB, hv, a1, km, rr, a2, km3, ht, ho, h3⟩ := both (as := [.int (xs (i + 1)), .int (nI 0)]) oI_f (wr_feel (xs (i + 1)) (nI 0)) (fun ok => j_feel ok (xs (i + 1)) false) h
    have a1 : am_x 255 [.ref x, .int (xs (i + 1)), .int (nI 0), .ref u] w = _ := a1
    have t1 := rr (i + 1) (by omega)
    have t2 := rr (i + 2) (by omega)
    refine ⟨S', w3, g3, ?_, h3⟩
    simp only [r1, r2, t1, t2, a1, km, a2, e2, bk267_568, bk267_575, bk267_581, bk267_588, bk267_584, bk267_589, bk267_593, bk267_602, bk267_608, bk267_615, bk267_611, bk267_616, bk267_619, bk267_1438, bk267_1432, nI_add, Nat.reduceAdd, Option.bind_some, bct_v, bct_t, otl_s, otl_n, List.cons_append, List.nil_append, List.getElem?_cons_zero, List.getElem?_cons_succ, ↓reduceIte]
  · obtain ⟨th, v, v', S', w2, w3, g3, hB, hv, a1, km, rr, a2, km3, ht, ho, h3⟩ := both (as := [.int (xs (i + 1)), .int (nI 1)]) oI_f (wr_feel (xs (i + 1)) (nI 1)) (fun ok => j_feel ok (xs (i + 1)) true) h
    have a1 : am_x 255 [.ref x, .int (xs (i + 1)), .int (nI 1), .ref u] w = _ := a1
    have t1 := rr (i + 1) (by omega)
    have t2 := rr (i + 2) (by omega)
    refine ⟨S', w3, g3, ?_, h3⟩
    simp only [r1, r2, t1, t2, a1, km, a2, e2, bk267_568, bk267_575, bk267_581, bk267_588, bk267_584, bk267_589, bk267_593, bk267_602, bk267_608, bk267_615, bk267_611, bk267_616, bk267_619, bk267_1438, bk267_1432, nI_add, Nat.reduceAdd, Option.bind_some, bct_v, bct_t, otl_s, otl_n, List.cons_append, List.nil_append, List.getElem?_cons_zero, List.getElem?_cons_succ, ↓reduceIte]

set_option maxHeartbeats 1000000 in
theorem lc_listen (h : LI b L xs x m u S w g k s) {i : Nat} (hi : i + 4 < L) : ∃ (S' : sS) (w' : am_Wd) (g' : Nat → Nat), am_run 267 624 [some (.ref b), some (.ref x), some (.ref m), some (.ref u), some (.int (nI i)), none, none, none] [] w = am_run 267 27 [some (.ref b), some (.ref x), some (.ref m), some (.ref u), some (.int (nI (i + 5))), none, none, none] [] w' ∧ LI b L xs x m u S' w' g' (k + 600) (s + 13200) := by
  have hb := h.2.2.2.2.2.1
  obtain ⟨kd, hr, cp, br, n, ws, mi, nd, dr, me, di, re⟩ := S
  have r1 := rd hb (i := i + 1) (by omega)
  have r2 := rd hb (i := i + 2) (by omega)
  by_cases e2 : xs (i + 2) = nI 0
  · obtain ⟨th, v, v', S', w2, w3, g3, hB, hv, a1, km, rr, a2, km3, ht, ho, h3⟩ := both (as := [.int (xs (i + 1)), .int (nI 0)]) oI_f (wr_listen (xs (i + 1)) (nI 0)) (fun ok => j_listen ok (xs (i + 1)) false) h
    have a1 : am_x 256 [.ref x, .int (xs (i + 1)), .int (nI 0), .ref u] w = _ := a1
    have t1 := rr (i + 1) (by omega)
    have t2 := rr (i + 2) (by omega)
    refine ⟨S', w3, g3, ?_, h3⟩
    simp only [r1, r2, t1, t2, a1, km, a2, e2, bk267_624, bk267_631, bk267_637, bk267_644, bk267_640, bk267_645, bk267_649, bk267_658, bk267_664, bk267_671, bk267_667, bk267_672, bk267_675, bk267_1438, bk267_1432, nI_add, Nat.reduceAdd, Option.bind_some, bct_v, bct_t, otl_s, otl_n, List.cons_append, List.nil_append, List.getElem?_cons_zero, List.getElem?_cons_succ, ↓reduceIte]
  · obtain ⟨th, v, v', S', w2, w3, g3, hB, hv, a1, km, rr, a2, km3, ht, ho, h3⟩ := both (as := [.int (xs (i + 1)), .int (nI 1)]) oI_f (wr_listen (xs (i + 1)) (nI 1)) (fun ok => j_listen ok (xs (i + 1)) true) h
    have a1 : am_x 256 [.ref x, .int (xs (i + 1)), .int (nI 1), .ref u] w = _ := a1
    have t1 := rr (i + 1) (by omega)
    have t2 := rr (i + 2) (by omega)
    refine ⟨S', w3, g3, ?_, h3⟩
    simp only [r1, r2, t1, t2, a1, km, a2, e2, bk267_624, bk267_631, bk267_637, bk267_644, bk267_640, bk267_645, bk267_649, bk267_658, bk267_664, bk267_671, bk267_667, bk267_672, bk267_675, bk267_1438, bk267_1432, nI_add, Nat.reduceAdd, Option.bind_some, bct_v, bct_t, otl_s, otl_n, List.cons_append, List.nil_append, List.getElem?_cons_zero, List.getElem?_cons_succ, ↓reduceIte]

set_option maxHeartbeats 1000000 in
theorem lc_charge (h : LI b L xs x m u S w g k s) {i : Nat} (hi : i + 4 < L) : ∃ (S' : sS) (w' : am_Wd) (g' : Nat → Nat), am_run 267 680 [some (.ref b), some (.ref x), some (.ref m), some (.ref u), some (.int (nI i)), none, none, none] [] w = am_run 267 27 [some (.ref b), some (.ref x), some (.ref m), some (.ref u), some (.int (nI (i + 5))), none, none, none] [] w' ∧ LI b L xs x m u S' w' g' (k + 600) (s + 13200) := by
  have hb := h.2.2.2.2.2.1
  obtain ⟨kd, hr, cp, br, n, ws, mi, nd, dr, me, di, re⟩ := S
  have r1 := rd hb (i := i + 1) (by omega)
  have r2 := rd hb (i := i + 2) (by omega)
  obtain ⟨th, v, v', S', w2, w3, g3, hB, hv, a1, km, rr, a2, km3, ht, ho, h3⟩ := both (as := [.int (xs (i + 1)), .int (xs (i + 2))]) oI_f (wr_charge (xs (i + 1)) (xs (i + 2))) (fun ok => j_charge ok (xs (i + 1)) (xs (i + 2))) h
  have a1 : am_x 187 [.ref x, .int (xs (i + 1)), .int (xs (i + 2)), .ref u] w = _ := a1
  have t1 := rr (i + 1) (by omega)
  have t2 := rr (i + 2) (by omega)
  refine ⟨S', w3, g3, ?_, h3⟩
  simp only [r1, r2, t1, t2, a1, km, a2, bk267_680, bk267_687, bk267_693, bk267_697, bk267_706, bk267_712, bk267_715, bk267_1438, bk267_1432, nI_add, Nat.reduceAdd, Option.bind_some, bct_v, bct_t, otl_s, otl_n, List.cons_append, List.nil_append, List.getElem?_cons_zero, List.getElem?_cons_succ, ↓reduceIte]

set_option maxHeartbeats 1000000 in
theorem lc_tellPose (h : LI b L xs x m u S w g k s) {i : Nat} (hi : i + 4 < L) : ∃ (S' : sS) (w' : am_Wd) (g' : Nat → Nat), am_run 267 720 [some (.ref b), some (.ref x), some (.ref m), some (.ref u), some (.int (nI i)), none, none, none] [] w = am_run 267 27 [some (.ref b), some (.ref x), some (.ref m), some (.ref u), some (.int (nI (i + 5))), none, none, none] [] w' ∧ LI b L xs x m u S' w' g' (k + 600) (s + 13200) := by
  have hb := h.2.2.2.2.2.1
  obtain ⟨kd, hr, cp, br, n, ws, mi, nd, dr, me, di, re⟩ := S
  have r1 := rd hb (i := i + 1) (by omega)
  obtain ⟨th, v, v', S', w2, w3, g3, hB, hv, a1, km, rr, a2, km3, ht, ho, h3⟩ := both (as := [.int (xs (i + 1))]) oI_f (wr_tellPose (xs (i + 1))) (fun ok => j_tellPose ok (xs (i + 1))) h
  have a1 : am_x 188 [.ref x, .int (xs (i + 1)), .ref u] w = _ := a1
  have t1 := rr (i + 1) (by omega)
  refine ⟨S', w3, g3, ?_, h3⟩
  simp only [r1, t1, a1, km, a2, bk267_720, bk267_727, bk267_731, bk267_740, bk267_743, bk267_1438, bk267_1432, nI_add, Nat.reduceAdd, Option.bind_some, bct_v, bct_t, otl_s, otl_n, List.cons_append, List.nil_append, List.getElem?_cons_zero, List.getElem?_cons_succ, ↓reduceIte]

set_option maxHeartbeats 1000000 in
theorem lc_meet (h : LI b L xs x m u S w g k s) {i : Nat} (hi : i + 4 < L) : ∃ (S' : sS) (w' : am_Wd) (g' : Nat → Nat), am_run 267 748 [some (.ref b), some (.ref x), some (.ref m), some (.ref u), some (.int (nI i)), none, none, none] [] w = am_run 267 27 [some (.ref b), some (.ref x), some (.ref m), some (.ref u), some (.int (nI (i + 5))), none, none, none] [] w' ∧ LI b L xs x m u S' w' g' (k + 600) (s + 13200) := by
  have hb := h.2.2.2.2.2.1
  obtain ⟨kd, hr, cp, br, n, ws, mi, nd, dr, me, di, re⟩ := S
  have r1 := rd hb (i := i + 1) (by omega)
  have r2 := rd hb (i := i + 2) (by omega)
  obtain ⟨th, v, v', S', w2, w3, g3, hB, hv, a1, km, rr, a2, km3, ht, ho, h3⟩ := both (as := [.int (xs (i + 1)), .int (xs (i + 2))]) oI_f (wr_meet (xs (i + 1)) (xs (i + 2))) (fun ok => j_meet ok (xs (i + 1)) (xs (i + 2))) h
  have a1 : am_x 218 [.ref x, .int (xs (i + 1)), .int (xs (i + 2)), .ref u] w = _ := a1
  have t1 := rr (i + 1) (by omega)
  have t2 := rr (i + 2) (by omega)
  refine ⟨S', w3, g3, ?_, h3⟩
  simp only [r1, r2, t1, t2, a1, km, a2, bk267_748, bk267_755, bk267_761, bk267_765, bk267_774, bk267_780, bk267_783, bk267_1438, bk267_1432, nI_add, Nat.reduceAdd, Option.bind_some, bct_v, bct_t, otl_s, otl_n, List.cons_append, List.nil_append, List.getElem?_cons_zero, List.getElem?_cons_succ, ↓reduceIte]

set_option maxHeartbeats 1000000 in
theorem lc_pass (h : LI b L xs x m u S w g k s) {i : Nat} (hi : i + 4 < L) : ∃ (S' : sS) (w' : am_Wd) (g' : Nat → Nat), am_run 267 788 [some (.ref b), some (.ref x), some (.ref m), some (.ref u), some (.int (nI i)), none, none, none] [] w = am_run 267 27 [some (.ref b), some (.ref x), some (.ref m), some (.ref u), some (.int (nI (i + 5))), none, none, none] [] w' ∧ LI b L xs x m u S' w' g' (k + 600) (s + 13200) := by
  have hb := h.2.2.2.2.2.1
  obtain ⟨kd, hr, cp, br, n, ws, mi, nd, dr, me, di, re⟩ := S
  have r1 := rd hb (i := i + 1) (by omega)
  obtain ⟨th, v, v', S', w2, w3, g3, hB, hv, a1, km, rr, a2, km3, ht, ho, h3⟩ := both (as := [.int (xs (i + 1))]) oI_f (wr_pass (xs (i + 1))) (fun ok => j_pass ok (xs (i + 1))) h
  have a1 : am_x 189 [.ref x, .int (xs (i + 1)), .ref u] w = _ := a1
  have t1 := rr (i + 1) (by omega)
  refine ⟨S', w3, g3, ?_, h3⟩
  simp only [r1, t1, a1, km, a2, bk267_788, bk267_795, bk267_799, bk267_808, bk267_811, bk267_1438, bk267_1432, nI_add, Nat.reduceAdd, Option.bind_some, bct_v, bct_t, otl_s, otl_n, List.cons_append, List.nil_append, List.getElem?_cons_zero, List.getElem?_cons_succ, ↓reduceIte]

set_option maxHeartbeats 1000000 in
theorem lc_call (h : LI b L xs x m u S w g k s) {i : Nat} (hi : i + 4 < L) : ∃ (S' : sS) (w' : am_Wd) (g' : Nat → Nat), am_run 267 816 [some (.ref b), some (.ref x), some (.ref m), some (.ref u), some (.int (nI i)), none, none, none] [] w = am_run 267 27 [some (.ref b), some (.ref x), some (.ref m), some (.ref u), some (.int (nI (i + 5))), none, none, none] [] w' ∧ LI b L xs x m u S' w' g' (k + 600) (s + 13200) := by
  have hb := h.2.2.2.2.2.1
  obtain ⟨kd, hr, cp, br, n, ws, mi, nd, dr, me, di, re⟩ := S
  obtain ⟨v, S', w2, w3, g3, kx, a1, km, a2, h3⟩ := both0 (fun ok => j_call ok) h
  refine ⟨S', w3, g3, ?_, h3⟩
  simp only [kx, a1, km, a2, cmp_s, bk267_816, bk267_820, bk267_825, bk267_1438, bk267_1432, nI_add, Nat.reduceAdd, Option.bind_some, bct_v, bct_t, otl_s, otl_n, List.cons_append, List.nil_append, List.getElem?_cons_zero, List.getElem?_cons_succ, ↓reduceIte]

set_option maxHeartbeats 1000000 in
theorem lc_ofEdge (h : LI b L xs x m u S w g k s) {i : Nat} (hi : i + 4 < L) : ∃ (S' : sS) (w' : am_Wd) (g' : Nat → Nat), am_run 267 829 [some (.ref b), some (.ref x), some (.ref m), some (.ref u), some (.int (nI i)), none, none, none] [] w = am_run 267 27 [some (.ref b), some (.ref x), some (.ref m), some (.ref u), some (.int (nI (i + 5))), none, none, none] [] w' ∧ LI b L xs x m u S' w' g' (k + 600) (s + 13200) := by
  have hb := h.2.2.2.2.2.1
  obtain ⟨kd, hr, cp, br, n, ws, mi, nd, dr, me, di, re⟩ := S
  have r1 := rd hb (i := i + 1) (by omega)
  have r2 := rd hb (i := i + 2) (by omega)
  have r3 := rd hb (i := i + 3) (by omega)
  obtain ⟨th, v, v', S', w2, w3, g3, hB, hv, a1, km, rr, a2, km3, ht, ho, h3⟩ := both (as := [.int (xs (i + 1)), .int (xs (i + 2)), .int (xs (i + 3))]) oI_f (wr_ofEdge (xs (i + 1)) (xs (i + 2)) (xs (i + 3))) (fun ok => j_ofEdge ok (xs (i + 1)) (xs (i + 2)) (xs (i + 3))) h
  have a1 : am_x 219 [.ref x, .int (xs (i + 1)), .int (xs (i + 2)), .int (xs (i + 3)), .ref u] w = _ := a1
  have t1 := rr (i + 1) (by omega)
  have t2 := rr (i + 2) (by omega)
  have t3 := rr (i + 3) (by omega)
  refine ⟨S', w3, g3, ?_, h3⟩
  simp only [r1, r2, r3, t1, t2, t3, a1, km, a2, bk267_829, bk267_836, bk267_842, bk267_848, bk267_852, bk267_861, bk267_867, bk267_873, bk267_876, bk267_1438, bk267_1432, nI_add, Nat.reduceAdd, Option.bind_some, bct_v, bct_t, otl_s, otl_n, List.cons_append, List.nil_append, List.getElem?_cons_zero, List.getElem?_cons_succ, ↓reduceIte]

set_option maxHeartbeats 1000000 in
theorem lc_ofWalker (h : LI b L xs x m u S w g k s) {i : Nat} (hi : i + 4 < L) : ∃ (S' : sS) (w' : am_Wd) (g' : Nat → Nat), am_run 267 881 [some (.ref b), some (.ref x), some (.ref m), some (.ref u), some (.int (nI i)), none, none, none] [] w = am_run 267 27 [some (.ref b), some (.ref x), some (.ref m), some (.ref u), some (.int (nI (i + 5))), none, none, none] [] w' ∧ LI b L xs x m u S' w' g' (k + 600) (s + 13200) := by
  have hb := h.2.2.2.2.2.1
  obtain ⟨kd, hr, cp, br, n, ws, mi, nd, dr, me, di, re⟩ := S
  have r1 := rd hb (i := i + 1) (by omega)
  have r2 := rd hb (i := i + 2) (by omega)
  obtain ⟨th, v, v', S', w2, w3, g3, hB, hv, a1, km, rr, a2, km3, ht, ho, h3⟩ := both (as := [.int (xs (i + 1)), .int (xs (i + 2))]) oI_f (wr_ofWalker (xs (i + 1)) (xs (i + 2))) (fun ok => j_ofWalker ok (xs (i + 1)) (xs (i + 2))) h
  have a1 : am_x 234 [.ref x, .int (xs (i + 1)), .int (xs (i + 2)), .ref u] w = _ := a1
  have t1 := rr (i + 1) (by omega)
  have t2 := rr (i + 2) (by omega)
  refine ⟨S', w3, g3, ?_, h3⟩
  simp only [r1, r2, t1, t2, a1, km, a2, bk267_881, bk267_888, bk267_894, bk267_898, bk267_907, bk267_913, bk267_916, bk267_1438, bk267_1432, nI_add, Nat.reduceAdd, Option.bind_some, bct_v, bct_t, otl_s, otl_n, List.cons_append, List.nil_append, List.getElem?_cons_zero, List.getElem?_cons_succ, ↓reduceIte]

set_option maxHeartbeats 1000000 in
theorem lc_house (h : LI b L xs x m u S w g k s) {i : Nat} (hi : i + 4 < L) : ∃ (S' : sS) (w' : am_Wd) (g' : Nat → Nat), am_run 267 921 [some (.ref b), some (.ref x), some (.ref m), some (.ref u), some (.int (nI i)), none, none, none] [] w = am_run 267 27 [some (.ref b), some (.ref x), some (.ref m), some (.ref u), some (.int (nI (i + 5))), none, none, none] [] w' ∧ LI b L xs x m u S' w' g' (k + 600) (s + 13200) := by
  have hb := h.2.2.2.2.2.1
  obtain ⟨kd, hr, cp, br, n, ws, mi, nd, dr, me, di, re⟩ := S
  have r1 := rd hb (i := i + 1) (by omega)
  obtain ⟨th, v, v', S', w2, w3, g3, hB, hv, a1, km, rr, a2, km3, ht, ho, h3⟩ := both (as := [.int (xs (i + 1))]) oI_f (wr_house (xs (i + 1))) (fun ok => j_house ok (xs (i + 1))) h
  have a1 : am_x 190 [.ref x, .int (xs (i + 1)), .ref u] w = _ := a1
  have t1 := rr (i + 1) (by omega)
  refine ⟨S', w3, g3, ?_, h3⟩
  simp only [r1, t1, a1, km, a2, bk267_921, bk267_928, bk267_932, bk267_941, bk267_944, bk267_1438, bk267_1432, nI_add, Nat.reduceAdd, Option.bind_some, bct_v, bct_t, otl_s, otl_n, List.cons_append, List.nil_append, List.getElem?_cons_zero, List.getElem?_cons_succ, ↓reduceIte]

set_option maxHeartbeats 1000000 in
theorem lc_row (h : LI b L xs x m u S w g k s) {i : Nat} (hi : i + 4 < L) : ∃ (S' : sS) (w' : am_Wd) (g' : Nat → Nat), am_run 267 949 [some (.ref b), some (.ref x), some (.ref m), some (.ref u), some (.int (nI i)), none, none, none] [] w = am_run 267 27 [some (.ref b), some (.ref x), some (.ref m), some (.ref u), some (.int (nI (i + 5))), none, none, none] [] w' ∧ LI b L xs x m u S' w' g' (k + 600) (s + 13200) := by
  have hb := h.2.2.2.2.2.1
  obtain ⟨kd, hr, cp, br, n, ws, mi, nd, dr, me, di, re⟩ := S
  have r1 := rd hb (i := i + 1) (by omega)
  obtain ⟨th, v, w2, w3, g3, a1, km, rr, a2, h3⟩ := bothR (z := xs (i + 1)) (fun ok => j_row ok _) h
  have t1 := rr (i + 1) (by omega)
  refine ⟨_, w3, g3, ?_, h3⟩
  simp only [r1, a1, km, t1, a2, bk267_949, bk267_956, bk267_960, bk267_969, bk267_972, bk267_1438, bk267_1432, nI_add, Nat.reduceAdd, Option.bind_some, bct_v, bct_t, otl_s, otl_n, List.cons_append, List.nil_append, List.getElem?_cons_zero, List.getElem?_cons_succ, ↓reduceIte]

set_option maxHeartbeats 1000000 in
theorem lc_map (h : LI b L xs x m u S w g k s) {i : Nat} (hi : i + 4 < L) : ∃ (S' : sS) (w' : am_Wd) (g' : Nat → Nat), am_run 267 977 [some (.ref b), some (.ref x), some (.ref m), some (.ref u), some (.int (nI i)), none, none, none] [] w = am_run 267 27 [some (.ref b), some (.ref x), some (.ref m), some (.ref u), some (.int (nI (i + 5))), none, none, none] [] w' ∧ LI b L xs x m u S' w' g' (k + 600) (s + 13200) := by
  have hb := h.2.2.2.2.2.1
  obtain ⟨kd, hr, cp, br, n, ws, mi, nd, dr, me, di, re⟩ := S
  have r1 := rd hb (i := i + 1) (by omega)
  have r2 := rd hb (i := i + 2) (by omega)
  have r3 := rd hb (i := i + 3) (by omega)
  obtain ⟨th, v, v', S', w2, w3, g3, hB, hv, a1, km, rr, a2, km3, ht, ho, h3⟩ := both (as := [.int (xs (i + 1)), .int (xs (i + 2)), .int (xs (i + 3))]) oI_f (wr_map (xs (i + 1)) (xs (i + 2)) (xs (i + 3))) (fun ok => j_map ok (xs (i + 1)) (xs (i + 2)) (xs (i + 3))) h
  have a1 : am_x 191 [.ref x, .int (xs (i + 1)), .int (xs (i + 2)), .int (xs (i + 3)), .ref u] w = _ := a1
  have t1 := rr (i + 1) (by omega)
  have t2 := rr (i + 2) (by omega)
  have t3 := rr (i + 3) (by omega)
  refine ⟨S', w3, g3, ?_, h3⟩
  simp only [r1, r2, r3, t1, t2, t3, a1, km, a2, bk267_977, bk267_984, bk267_990, bk267_996, bk267_1000, bk267_1009, bk267_1015, bk267_1021, bk267_1024, bk267_1438, bk267_1432, nI_add, Nat.reduceAdd, Option.bind_some, bct_v, bct_t, otl_s, otl_n, List.cons_append, List.nil_append, List.getElem?_cons_zero, List.getElem?_cons_succ, ↓reduceIte]

set_option maxHeartbeats 1000000 in
theorem lc_may (h : LI b L xs x m u S w g k s) {i : Nat} (hi : i + 4 < L) : ∃ (S' : sS) (w' : am_Wd) (g' : Nat → Nat), am_run 267 1029 [some (.ref b), some (.ref x), some (.ref m), some (.ref u), some (.int (nI i)), none, none, none] [] w = am_run 267 27 [some (.ref b), some (.ref x), some (.ref m), some (.ref u), some (.int (nI (i + 5))), none, none, none] [] w' ∧ LI b L xs x m u S' w' g' (k + 600) (s + 13200) := by
  have hb := h.2.2.2.2.2.1
  obtain ⟨kd, hr, cp, br, n, ws, mi, nd, dr, me, di, re⟩ := S
  have r1 := rd hb (i := i + 1) (by omega)
  have r2 := rd hb (i := i + 2) (by omega)
  obtain ⟨th, v, v', S', w2, w3, g3, hB, hv, a1, km, rr, a2, km3, ht, ho, h3⟩ := both (as := [.int (xs (i + 1)), .int (xs (i + 2))]) oZ_f (wr_may (xs (i + 1)) (xs (i + 2))) (fun ok => j_may ok (xs (i + 1)) (xs (i + 2))) h
  have a1 : am_x 192 [.ref x, .int (xs (i + 1)), .int (xs (i + 2)), .ref u] w = _ := a1
  have t1 := rr (i + 1) (by omega)
  have t2 := rr (i + 2) (by omega)
  refine ⟨S', w3, g3, ?_, h3⟩
  simp only [r1, r2, t1, t2, a1, km, a2, bk267_1029, bk267_1036, bk267_1042, bk267_1046, bk267_1055, bk267_1061, bk267_1064, bk267_1438, bk267_1432, nI_add, Nat.reduceAdd, Option.bind_some, bct_v, bct_t, otl_s, otl_n, List.cons_append, List.nil_append, List.getElem?_cons_zero, List.getElem?_cons_succ, ↓reduceIte]

set_option maxHeartbeats 1000000 in
theorem lc_where (h : LI b L xs x m u S w g k s) {i : Nat} (hi : i + 4 < L) : ∃ (S' : sS) (w' : am_Wd) (g' : Nat → Nat), am_run 267 1069 [some (.ref b), some (.ref x), some (.ref m), some (.ref u), some (.int (nI i)), none, none, none] [] w = am_run 267 27 [some (.ref b), some (.ref x), some (.ref m), some (.ref u), some (.int (nI (i + 5))), none, none, none] [] w' ∧ LI b L xs x m u S' w' g' (k + 600) (s + 13200) := by
  have hb := h.2.2.2.2.2.1
  obtain ⟨kd, hr, cp, br, n, ws, mi, nd, dr, me, di, re⟩ := S
  have r1 := rd hb (i := i + 1) (by omega)
  have r2 := rd hb (i := i + 2) (by omega)
  obtain ⟨th, v, v', S', w2, w3, g3, hB, hv, a1, km, rr, a2, km3, ht, ho, h3⟩ := both (as := [.int (xs (i + 1)), .int (xs (i + 2))]) oJ_f (wr_where (xs (i + 1)) (xs (i + 2))) (fun ok => j_where ok (xs (i + 1)) (xs (i + 2))) h
  have a1 : am_x 193 [.ref x, .int (xs (i + 1)), .int (xs (i + 2)), .ref u] w = _ := a1
  have t1 := rr (i + 1) (by omega)
  have t2 := rr (i + 2) (by omega)
  refine ⟨S', w3, g3, ?_, h3⟩
  simp only [r1, r2, t1, t2, a1, km, a2, bk267_1069, bk267_1076, bk267_1082, bk267_1086, bk267_1095, bk267_1101, bk267_1104, bk267_1438, bk267_1432, nI_add, Nat.reduceAdd, Option.bind_some, bct_v, bct_t, otl_s, otl_n, List.cons_append, List.nil_append, List.getElem?_cons_zero, List.getElem?_cons_succ, ↓reduceIte]

set_option maxHeartbeats 1000000 in
theorem lc_way (h : LI b L xs x m u S w g k s) {i : Nat} (hi : i + 4 < L) : ∃ (S' : sS) (w' : am_Wd) (g' : Nat → Nat), am_run 267 1109 [some (.ref b), some (.ref x), some (.ref m), some (.ref u), some (.int (nI i)), none, none, none] [] w = am_run 267 27 [some (.ref b), some (.ref x), some (.ref m), some (.ref u), some (.int (nI (i + 5))), none, none, none] [] w' ∧ LI b L xs x m u S' w' g' (k + 600) (s + 13200) := by
  have hb := h.2.2.2.2.2.1
  obtain ⟨kd, hr, cp, br, n, ws, mi, nd, dr, me, di, re⟩ := S
  have r1 := rd hb (i := i + 1) (by omega)
  have r2 := rd hb (i := i + 2) (by omega)
  have r3 := rd hb (i := i + 3) (by omega)
  obtain ⟨th, v, v', S', w2, w3, g3, hB, hv, a1, km, rr, a2, km3, ht, ho, h3⟩ := both (as := [.int (xs (i + 1)), .int (xs (i + 2)), .int (xs (i + 3))]) oI_f (wr_way (xs (i + 1)) (xs (i + 2)) (xs (i + 3))) (fun ok => j_way ok (xs (i + 1)) (xs (i + 2)) (xs (i + 3))) h
  have a1 : am_x 194 [.ref x, .int (xs (i + 1)), .int (xs (i + 2)), .int (xs (i + 3)), .ref u] w = _ := a1
  have t1 := rr (i + 1) (by omega)
  have t2 := rr (i + 2) (by omega)
  have t3 := rr (i + 3) (by omega)
  refine ⟨S', w3, g3, ?_, h3⟩
  simp only [r1, r2, r3, t1, t2, t3, a1, km, a2, bk267_1109, bk267_1116, bk267_1122, bk267_1128, bk267_1132, bk267_1141, bk267_1147, bk267_1153, bk267_1156, bk267_1438, bk267_1432, nI_add, Nat.reduceAdd, Option.bind_some, bct_v, bct_t, otl_s, otl_n, List.cons_append, List.nil_append, List.getElem?_cons_zero, List.getElem?_cons_succ, ↓reduceIte]

set_option maxHeartbeats 1000000 in
theorem lc_safety (h : LI b L xs x m u S w g k s) {i : Nat} (hi : i + 4 < L) : ∃ (S' : sS) (w' : am_Wd) (g' : Nat → Nat), am_run 267 1161 [some (.ref b), some (.ref x), some (.ref m), some (.ref u), some (.int (nI i)), none, none, none] [] w = am_run 267 27 [some (.ref b), some (.ref x), some (.ref m), some (.ref u), some (.int (nI (i + 5))), none, none, none] [] w' ∧ LI b L xs x m u S' w' g' (k + 600) (s + 13200) := by
  have hb := h.2.2.2.2.2.1
  obtain ⟨kd, hr, cp, br, n, ws, mi, nd, dr, me, di, re⟩ := S
  have r1 := rd hb (i := i + 1) (by omega)
  have r2 := rd hb (i := i + 2) (by omega)
  obtain ⟨th, v, v', S', w2, w3, g3, hB, hv, a1, km, rr, a2, km3, ht, ho, h3⟩ := both (as := [.int (xs (i + 1)), .int (xs (i + 2))]) oI_f (wr_safety (xs (i + 1)) (xs (i + 2))) (fun ok => j_safety ok (xs (i + 1)) (xs (i + 2))) h
  have a1 : am_x 249 [.ref x, .int (xs (i + 1)), .int (xs (i + 2)), .ref u] w = _ := a1
  have t1 := rr (i + 1) (by omega)
  have t2 := rr (i + 2) (by omega)
  refine ⟨S', w3, g3, ?_, h3⟩
  simp only [r1, r2, t1, t2, a1, km, a2, bk267_1161, bk267_1168, bk267_1174, bk267_1178, bk267_1187, bk267_1193, bk267_1196, bk267_1438, bk267_1432, nI_add, Nat.reduceAdd, Option.bind_some, bct_v, bct_t, otl_s, otl_n, List.cons_append, List.nil_append, List.getElem?_cons_zero, List.getElem?_cons_succ, ↓reduceIte]

set_option maxHeartbeats 1000000 in
theorem lc_doubt (h : LI b L xs x m u S w g k s) {i : Nat} (hi : i + 4 < L) : ∃ (S' : sS) (w' : am_Wd) (g' : Nat → Nat), am_run 267 1201 [some (.ref b), some (.ref x), some (.ref m), some (.ref u), some (.int (nI i)), none, none, none] [] w = am_run 267 27 [some (.ref b), some (.ref x), some (.ref m), some (.ref u), some (.int (nI (i + 5))), none, none, none] [] w' ∧ LI b L xs x m u S' w' g' (k + 600) (s + 13200) := by
  have hb := h.2.2.2.2.2.1
  obtain ⟨kd, hr, cp, br, n, ws, mi, nd, dr, me, di, re⟩ := S
  have r1 := rd hb (i := i + 1) (by omega)
  obtain ⟨th, v, v', S', w2, w3, g3, hB, hv, a1, km, rr, a2, km3, ht, ho, h3⟩ := both (as := [.int (xs (i + 1))]) oD_f (wr_doubt (xs (i + 1))) (fun ok => j_doubt ok (xs (i + 1))) h
  have a1 : am_x 148 [.ref x, .int (xs (i + 1)), .ref u] w = _ := a1
  have t1 := rr (i + 1) (by omega)
  refine ⟨S', w3, g3, ?_, h3⟩
  simp only [r1, t1, a1, km, a2, bk267_1201, bk267_1208, bk267_1212, bk267_1221, bk267_1224, bk267_1438, bk267_1432, nI_add, Nat.reduceAdd, Option.bind_some, bct_v, bct_t, otl_s, otl_n, List.cons_append, List.nil_append, List.getElem?_cons_zero, List.getElem?_cons_succ, ↓reduceIte]

set_option maxHeartbeats 1000000 in
theorem lc_worst (h : LI b L xs x m u S w g k s) {i : Nat} (hi : i + 4 < L) : ∃ (S' : sS) (w' : am_Wd) (g' : Nat → Nat), am_run 267 1229 [some (.ref b), some (.ref x), some (.ref m), some (.ref u), some (.int (nI i)), none, none, none] [] w = am_run 267 27 [some (.ref b), some (.ref x), some (.ref m), some (.ref u), some (.int (nI (i + 5))), none, none, none] [] w' ∧ LI b L xs x m u S' w' g' (k + 600) (s + 13200) := by
  have hb := h.2.2.2.2.2.1
  obtain ⟨kd, hr, cp, br, n, ws, mi, nd, dr, me, di, re⟩ := S
  have r1 := rd hb (i := i + 1) (by omega)
  have r2 := rd hb (i := i + 2) (by omega)
  obtain ⟨th, v, v', S', w2, w3, g3, hB, hv, a1, km, rr, a2, km3, ht, ho, h3⟩ := both (as := [.int (xs (i + 1)), .int (xs (i + 2))]) oI_f (wr_worst (xs (i + 1)) (xs (i + 2))) (fun ok => j_worst ok (xs (i + 1)) (xs (i + 2))) h
  have a1 : am_x 235 [.ref x, .int (xs (i + 1)), .int (xs (i + 2)), .ref u] w = _ := a1
  have t1 := rr (i + 1) (by omega)
  have t2 := rr (i + 2) (by omega)
  refine ⟨S', w3, g3, ?_, h3⟩
  simp only [r1, r2, t1, t2, a1, km, a2, bk267_1229, bk267_1236, bk267_1242, bk267_1246, bk267_1255, bk267_1261, bk267_1264, bk267_1438, bk267_1432, nI_add, Nat.reduceAdd, Option.bind_some, bct_v, bct_t, otl_s, otl_n, List.cons_append, List.nil_append, List.getElem?_cons_zero, List.getElem?_cons_succ, ↓reduceIte]

set_option maxHeartbeats 1000000 in
theorem lc_best (h : LI b L xs x m u S w g k s) {i : Nat} (hi : i + 4 < L) : ∃ (S' : sS) (w' : am_Wd) (g' : Nat → Nat), am_run 267 1269 [some (.ref b), some (.ref x), some (.ref m), some (.ref u), some (.int (nI i)), none, none, none] [] w = am_run 267 27 [some (.ref b), some (.ref x), some (.ref m), some (.ref u), some (.int (nI (i + 5))), none, none, none] [] w' ∧ LI b L xs x m u S' w' g' (k + 600) (s + 13200) := by
  have hb := h.2.2.2.2.2.1
  obtain ⟨kd, hr, cp, br, n, ws, mi, nd, dr, me, di, re⟩ := S
  have r1 := rd hb (i := i + 1) (by omega)
  obtain ⟨th, v, v', S', w2, w3, g3, hB, hv, a1, km, rr, a2, km3, ht, ho, h3⟩ := both (as := [.int (xs (i + 1))]) oI_f (wr_best (xs (i + 1))) (fun ok => j_best ok (xs (i + 1))) h
  have a1 : am_x 236 [.ref x, .int (xs (i + 1)), .ref u] w = _ := a1
  have t1 := rr (i + 1) (by omega)
  refine ⟨S', w3, g3, ?_, h3⟩
  simp only [r1, t1, a1, km, a2, bk267_1269, bk267_1276, bk267_1280, bk267_1289, bk267_1292, bk267_1438, bk267_1432, nI_add, Nat.reduceAdd, Option.bind_some, bct_v, bct_t, otl_s, otl_n, List.cons_append, List.nil_append, List.getElem?_cons_zero, List.getElem?_cons_succ, ↓reduceIte]

set_option maxHeartbeats 1000000 in
theorem lc_wouldFeel (h : LI b L xs x m u S w g k s) {i : Nat} (hi : i + 4 < L) : ∃ (S' : sS) (w' : am_Wd) (g' : Nat → Nat), am_run 267 1297 [some (.ref b), some (.ref x), some (.ref m), some (.ref u), some (.int (nI i)), none, none, none] [] w = am_run 267 27 [some (.ref b), some (.ref x), some (.ref m), some (.ref u), some (.int (nI (i + 5))), none, none, none] [] w' ∧ LI b L xs x m u S' w' g' (k + 600) (s + 13200) := by
  have hb := h.2.2.2.2.2.1
  obtain ⟨kd, hr, cp, br, n, ws, mi, nd, dr, me, di, re⟩ := S
  have r1 := rd hb (i := i + 1) (by omega)
  have r2 := rd hb (i := i + 2) (by omega)
  obtain ⟨th, v, v', S', w2, w3, g3, hB, hv, a1, km, rr, a2, km3, ht, ho, h3⟩ := both (as := [.int (xs (i + 1)), .int (xs (i + 2))]) oI_f (wr_wouldFeel (xs (i + 1)) (xs (i + 2))) (fun ok => j_wouldFeel ok (xs (i + 1)) (xs (i + 2))) h
  have a1 : am_x 220 [.ref x, .int (xs (i + 1)), .int (xs (i + 2)), .ref u] w = _ := a1
  have t1 := rr (i + 1) (by omega)
  have t2 := rr (i + 2) (by omega)
  refine ⟨S', w3, g3, ?_, h3⟩
  simp only [r1, r2, t1, t2, a1, km, a2, bk267_1297, bk267_1304, bk267_1310, bk267_1314, bk267_1323, bk267_1329, bk267_1332, bk267_1438, bk267_1432, nI_add, Nat.reduceAdd, Option.bind_some, bct_v, bct_t, otl_s, otl_n, List.cons_append, List.nil_append, List.getElem?_cons_zero, List.getElem?_cons_succ, ↓reduceIte]

set_option maxHeartbeats 1000000 in
theorem lc_wouldBe (h : LI b L xs x m u S w g k s) {i : Nat} (hi : i + 4 < L) : ∃ (S' : sS) (w' : am_Wd) (g' : Nat → Nat), am_run 267 1337 [some (.ref b), some (.ref x), some (.ref m), some (.ref u), some (.int (nI i)), none, none, none] [] w = am_run 267 27 [some (.ref b), some (.ref x), some (.ref m), some (.ref u), some (.int (nI (i + 5))), none, none, none] [] w' ∧ LI b L xs x m u S' w' g' (k + 600) (s + 13200) := by
  have hb := h.2.2.2.2.2.1
  obtain ⟨kd, hr, cp, br, n, ws, mi, nd, dr, me, di, re⟩ := S
  have r1 := rd hb (i := i + 1) (by omega)
  have r2 := rd hb (i := i + 2) (by omega)
  obtain ⟨th, v, v', S', w2, w3, g3, hB, hv, a1, km, rr, a2, km3, ht, ho, h3⟩ := both (as := [.int (xs (i + 1)), .int (xs (i + 2))]) oI_f (wr_wouldBe (xs (i + 1)) (xs (i + 2))) (fun ok => j_wouldBe ok (xs (i + 1)) (xs (i + 2))) h
  have a1 : am_x 237 [.ref x, .int (xs (i + 1)), .int (xs (i + 2)), .ref u] w = _ := a1
  have t1 := rr (i + 1) (by omega)
  have t2 := rr (i + 2) (by omega)
  refine ⟨S', w3, g3, ?_, h3⟩
  have x266 : am_x 266 [.ref m] w3 = some (.inl (some (.int (nI th))), w3) := by
    simp only [bx266, bk266_0, ht, bk266_4, Option.bind_some, bct_v, bct_t, otl_s, otl_n, List.cons_append, List.nil_append, List.getElem?_cons_zero, List.getElem?_cons_succ, ↓reduceIte]
  by_cases z0 : th = 0
  · obtain rfl := hv z0
    obtain ⟨oa, od, os, hO⟩ := ho z0
    subst z0
    have gO : am_gf w3 u 9 0 = some (.long (Int32.toInt64 v')) := gfc hO
    simp only [r1, r2, t1, t2, a1, km, a2, km3, x266, not_true_eq_false, gO, cmp_s, bk267_1337, bk267_1344, bk267_1350, bk267_1354, bk267_1363, bk267_1369, bk267_1372, bk267_1378, bk267_1385, bk267_1383, bk267_1403, bk267_1390, bk267_1394, bk267_1401, bk267_1438, bk267_1432, nI_add, Nat.reduceAdd, Option.bind_some, bct_v, bct_t, otl_s, otl_n, List.cons_append, List.nil_append, List.getElem?_cons_zero, List.getElem?_cons_succ, ↓reduceIte]
  · have z1 : (nI th = nI 0) = False := by rw [nI_eqS (by omega) (by decide)]; exact eq_false z0
    simp only [r1, r2, t1, t2, a1, km, a2, km3, x266, not_true_eq_false, z1, not_false_eq_true, bk267_1337, bk267_1344, bk267_1350, bk267_1354, bk267_1363, bk267_1369, bk267_1372, bk267_1378, bk267_1385, bk267_1383, bk267_1403, bk267_1390, bk267_1394, bk267_1401, bk267_1438, bk267_1432, nI_add, Nat.reduceAdd, Option.bind_some, bct_v, bct_t, otl_s, otl_n, List.cons_append, List.nil_append, List.getElem?_cons_zero, List.getElem?_cons_succ, ↓reduceIte]

set_option maxHeartbeats 1000000 in
theorem lc_isSound (h : LI b L xs x m u S w g k s) {i : Nat} (hi : i + 4 < L) : ∃ (S' : sS) (w' : am_Wd) (g' : Nat → Nat), am_run 267 1406 [some (.ref b), some (.ref x), some (.ref m), some (.ref u), some (.int (nI i)), none, none, none] [] w = am_run 267 27 [some (.ref b), some (.ref x), some (.ref m), some (.ref u), some (.int (nI (i + 5))), none, none, none] [] w' ∧ LI b L xs x m u S' w' g' (k + 600) (s + 13200) := by
  have hb := h.2.2.2.2.2.1
  obtain ⟨kd, hr, cp, br, n, ws, mi, nd, dr, me, di, re⟩ := S
  obtain ⟨v, S', w2, w3, g3, kx, a1, km, a2, h3⟩ := both0 (fun ok => j_isSound ok) h
  refine ⟨S', w3, g3, ?_, h3⟩
  simp only [kx, a1, km, a2, cmp_s, bk267_1406, bk267_1410, bk267_1415, bk267_1438, bk267_1432, nI_add, Nat.reduceAdd, Option.bind_some, bct_v, bct_t, otl_s, otl_n, List.cons_append, List.nil_append, List.getElem?_cons_zero, List.getElem?_cons_succ, ↓reduceIte]

set_option maxHeartbeats 1000000 in
theorem lc_digest (h : LI b L xs x m u S w g k s) {i : Nat} (hi : i + 4 < L) : ∃ (S' : sS) (w' : am_Wd) (g' : Nat → Nat), am_run 267 1419 [some (.ref b), some (.ref x), some (.ref m), some (.ref u), some (.int (nI i)), none, none, none] [] w = am_run 267 27 [some (.ref b), some (.ref x), some (.ref m), some (.ref u), some (.int (nI (i + 5))), none, none, none] [] w' ∧ LI b L xs x m u S' w' g' (k + 600) (s + 13200) := by
  have hb := h.2.2.2.2.2.1
  obtain ⟨kd, hr, cp, br, n, ws, mi, nd, dr, me, di, re⟩ := S
  obtain ⟨v, S', w2, w3, g3, kx, a1, km, a2, h3⟩ := both0 (fun ok => j_digest ok) h
  refine ⟨S', w3, g3, ?_, h3⟩
  simp only [kx, a1, km, a2, cmp_s, bk267_1419, bk267_1423, bk267_1428, bk267_1438, bk267_1432, nI_add, Nat.reduceAdd, Option.bind_some, bct_v, bct_t, otl_s, otl_n, List.cons_append, List.nil_append, List.getElem?_cons_zero, List.getElem?_cons_succ, ↓reduceIte]

end LC
end
section
/-! THE LAW'S LOOP. Laid by wip/gen/lawc.py. Mine. -/
section LP
variable {w : am_Wd} {g : Nat → Nat} {x m u b L : Nat} {xs : Nat → Int32} {S : sS} {k s : Nat}
theorem sub5 {L i : Nat} (hL : L ≤ 2560) (hi : i ≤ 2565) : (nI L - nI 5 < nI i) = (L < i + 5) := by
  by_cases h : 5 ≤ L
  · rw [nI_subS h, nI_ltS (by omega) (by omega)]
    exact propext ⟨fun q => by omega, fun q => by omega⟩
  · have z : nI 0 ≤ nI i := by rw [nI_leS (by decide) (by omega)]; exact Nat.zero_le i
    refine propext ⟨fun _ => by omega, fun _ => ?_⟩
    have y : ∀ j : Fin 5, nI j.val - nI 5 < nI 0 := by decide +kernel
    exact Int32.lt_of_lt_of_le (y ⟨L, by omega⟩) z
set_option maxHeartbeats 1000000 in
theorem lc_all (h : LI b L xs x m u S w g k s) {i : Nat} (hi : i + 4 < L) : ∃ (S' : sS) (w' : am_Wd) (g' : Nat → Nat), am_run 267 27 [some (.ref b), some (.ref x), some (.ref m), some (.ref u), some (.int (nI i)), none, none, none] [] w = am_run 267 27 [some (.ref b), some (.ref x), some (.ref m), some (.ref u), some (.int (nI (i + 5))), none, none, none] [] w' ∧ LI b L xs x m u S' w' g' (k + 600) (s + 13200) := by
  have hb := h.2.2.2.2.2.1
  have r0 := rd hb (i := i) (by omega)
  have ln := lenI hb.1 (by decide)
  have hL := hb.2.2.2
  have q5 : (nI L - nI 5 < nI i) = False := by rw [sub5 hL (by omega)]; exact eq_false (by omega)
  have st : am_run 267 27 [some (.ref b), some (.ref x), some (.ref m), some (.ref u), some (.int (nI i)), none, none, none] [] w = am_run 267 40 [some (.ref b), some (.ref x), some (.ref m), some (.ref u), some (.int (nI i)), none, none, none] [.int (xs i)] w := by
    simp only [bk267_27, bk267_31, bk267_36, ln, q5, r0, Option.bind_some, bct_v, bct_t, otl_s, otl_n, List.cons_append, List.nil_append, List.getElem?_cons_zero, List.getElem?_cons_succ, ↓reduceIte]
  rw [st, bk267_40]
  by_cases c0 : (xs i &&& nI 31) = nI 0
  · rw [if_pos c0]; exact lc_edge h hi
  rw [if_neg c0]
  by_cases c1 : (xs i &&& nI 31) = nI 1
  · rw [if_pos c1]; exact lc_lay h hi
  rw [if_neg c1]
  by_cases c2 : (xs i &&& nI 31) = nI 2
  · rw [if_pos c2]; exact lc_cell h hi
  rw [if_neg c2]
  by_cases c3 : (xs i &&& nI 31) = nI 3
  · rw [if_pos c3]; exact lc_walker h hi
  rw [if_neg c3]
  by_cases c4 : (xs i &&& nI 31) = nI 4
  · rw [if_pos c4]; exact lc_forward h hi
  rw [if_neg c4]
  by_cases c5 : (xs i &&& nI 31) = nI 5
  · rw [if_pos c5]; exact lc_turn h hi
  rw [if_neg c5]
  by_cases c6 : (xs i &&& nI 31) = nI 6
  · rw [if_pos c6]; exact lc_feel h hi
  rw [if_neg c6]
  by_cases c7 : (xs i &&& nI 31) = nI 7
  · rw [if_pos c7]; exact lc_listen h hi
  rw [if_neg c7]
  by_cases c8 : (xs i &&& nI 31) = nI 8
  · rw [if_pos c8]; exact lc_charge h hi
  rw [if_neg c8]
  by_cases c9 : (xs i &&& nI 31) = nI 9
  · rw [if_pos c9]; exact lc_tellPose h hi
  rw [if_neg c9]
  by_cases c10 : (xs i &&& nI 31) = nI 10
  · rw [if_pos c10]; exact lc_meet h hi
  rw [if_neg c10]
  by_cases c11 : (xs i &&& nI 31) = nI 11
  · rw [if_pos c11]; exact lc_pass h hi
  rw [if_neg c11]
  by_cases c12 : (xs i &&& nI 31) = nI 12
  · rw [if_pos c12]; exact lc_call h hi
  rw [if_neg c12]
  by_cases c13 : (xs i &&& nI 31) = nI 13
  · rw [if_pos c13]; exact lc_ofEdge h hi
  rw [if_neg c13]
  by_cases c14 : (xs i &&& nI 31) = nI 14
  · rw [if_pos c14]; exact lc_ofWalker h hi
  rw [if_neg c14]
  by_cases c15 : (xs i &&& nI 31) = nI 15
  · rw [if_pos c15]; exact lc_house h hi
  rw [if_neg c15]
  by_cases c16 : (xs i &&& nI 31) = nI 16
  · rw [if_pos c16]; exact lc_row h hi
  rw [if_neg c16]
  by_cases c17 : (xs i &&& nI 31) = nI 17
  · rw [if_pos c17]; exact lc_map h hi
  rw [if_neg c17]
  by_cases c18 : (xs i &&& nI 31) = nI 18
  · rw [if_pos c18]; exact lc_may h hi
  rw [if_neg c18]
  by_cases c19 : (xs i &&& nI 31) = nI 19
  · rw [if_pos c19]; exact lc_where h hi
  rw [if_neg c19]
  by_cases c20 : (xs i &&& nI 31) = nI 20
  · rw [if_pos c20]; exact lc_way h hi
  rw [if_neg c20]
  by_cases c21 : (xs i &&& nI 31) = nI 21
  · rw [if_pos c21]; exact lc_safety h hi
  rw [if_neg c21]
  by_cases c22 : (xs i &&& nI 31) = nI 22
  · rw [if_pos c22]; exact lc_doubt h hi
  rw [if_neg c22]
  by_cases c23 : (xs i &&& nI 31) = nI 23
  · rw [if_pos c23]; exact lc_worst h hi
  rw [if_neg c23]
  by_cases c24 : (xs i &&& nI 31) = nI 24
  · rw [if_pos c24]; exact lc_best h hi
  rw [if_neg c24]
  by_cases c25 : (xs i &&& nI 31) = nI 25
  · rw [if_pos c25]; exact lc_wouldFeel h hi
  rw [if_neg c25]
  by_cases c26 : (xs i &&& nI 31) = nI 26
  · rw [if_pos c26]; exact lc_wouldBe h hi
  rw [if_neg c26]
  by_cases c27 : (xs i &&& nI 31) = nI 27
  · rw [if_pos c27]; exact lc_isSound h hi
  rw [if_neg c27]
  by_cases c28 : (xs i &&& nI 31) = nI 28
  · rw [if_pos c28]; exact lc_digest h hi
  rw [if_neg c28]
  refine ⟨S, w, g, ?_, li_wk h (by omega) (by omega)⟩
  simp only [bk267_1438, bk267_1432, nI_add, Option.bind_some, bct_v, bct_t, otl_s, otl_n, List.cons_append, List.nil_append, List.getElem?_cons_zero, List.getElem?_cons_succ, ↓reduceIte]
theorem law_go : ∀ (f i : Nat) (S : sS) (w : am_Wd) (g : Nat → Nat) (k s : Nat), L < i + 5 * f + 5 → i ≤ 2560 → LI b L xs x m u S w g k s → ∃ w', am_run 267 27 [some (.ref b), some (.ref x), some (.ref m), some (.ref u), some (.int (nI i)), none, none, none] [] w = some (.inl (some (.int (nI 1))), w') ∧ w'.2.1 ≤ k + 600 * f ∧ w'.2.2.1 ≤ s + 13200 * f := by
  have stop : ∀ (i : Nat) (S : sS) (w : am_Wd) (g : Nat → Nat) (k s : Nat), L < i + 5 → i ≤ 2560 → LI b L xs x m u S w g k s → am_run 267 27 [some (.ref b), some (.ref x), some (.ref m), some (.ref u), some (.int (nI i)), none, none, none] [] w = some (.inl (some (.int (nI 1))), w) := by
    intro i S w g k s hL hi h
    have hb := h.2.2.2.2.2.1
    have ln := lenI hb.1 (by decide)
    have q5 : (nI L - nI 5 < nI i) = True := by rw [sub5 hb.2.2.2 (by omega)]; exact eq_true hL
    simp only [bk267_27, bk267_31, bk267_36, bk267_1438, ln, q5, Option.bind_some, bct_v, bct_t, otl_s, otl_n, List.cons_append, List.nil_append, List.getElem?_cons_zero, List.getElem?_cons_succ, ↓reduceIte]
  intro f
  induction f with
  | zero =>
    intro i S w g k s hL hi h
    exact ⟨w, stop i S w g k s (by omega) hi h, by have := h.2.2.2.2.2.2.2.2.1; omega, by have := h.2.2.2.2.2.2.2.2.2; omega⟩
  | succ f ih =>
    intro i S w g k s hL hi h
    by_cases q : L < i + 5
    · exact ⟨w, stop i S w g k s q hi h, by have := h.2.2.2.2.2.2.2.2.1; omega, by have := h.2.2.2.2.2.2.2.2.2; omega⟩
    · have hb := h.2.2.2.2.2.1
      obtain ⟨S', w', g', t, h'⟩ := lc_all h (i := i) (by omega)
      obtain ⟨w2, t2, l1, l2⟩ := ih (i + 5) S' w' g' _ _ (by omega) (by have := hb.2.2.2; omega) h'
      exact ⟨w2, t.trans t2, by omega, by omega⟩
end LP
end
