/-! THE LAW, case by case. Laid by wip/gen/lawc.py. Mine. -/
theorem cmp_s (v : Int64) : lg_cmp v v = nI 0 := by
  unfold lg_cmp
  simp [Int64.lt_irrefl]
  try rfl
section LC
variable {w : am_Wd} {g : Nat → Nat} {x m u b L : Nat} {xs : Nat → Int32} {S : sS} {k s : Nat}

set_option maxHeartbeats 1000000 in
theorem lc_edge (h : LI b L xs x m u S w g k s) {i : Nat} (hi : i + 4 < L) : ∃ (S' : sS) (w' : am_Wd) (g' : Nat → Nat), am_run 267 172 [some (.ref b), some (.ref x), some (.ref m), some (.ref u), some (.int (nI i)), none, none, none] [] w = am_run 267 27 [some (.ref b), some (.ref x), some (.ref m), some (.ref u), some (.int (nI (i + 5))), none, none, none] [] w' ∧ LI b L xs x m u S' w' g' (k + 600) (s + 13200) := by
  have hb := h.2.2.2.2.2.1
  obtain ⟨kd, hr, cp, br, n, ws, mi, nd, dr, me, di, re⟩ := S
  have r1 := rd hb (i := i + 1) (by omega)
  have r2 := rd hb (i := i + 2) (by omega)
  have r3 := rd hb (i := i + 3) (by omega)
  have r4 := rd hb (i := i + 4) (by omega)
  obtain ⟨th, v, v', S', w2, w3, g3, hB, hv, a1, km, rr, a2, km3, ht, ho, h3⟩ := both (as := [.int (xs (i + 1)), .int (xs (i + 2)), .int (xs (i + 3)), .int (xs (i + 4))]) oI_f (wr_edge (xs (i + 1)) (xs (i + 2)) (xs (i + 3)) (xs (i + 4))) (fun ok => j_edge ok (xs (i + 1)) (xs (i + 2)) (xs (i + 3)) (xs (i + 4))) h
  have a1 : am_x 216 [.ref x, .int (xs (i + 1)), .int (xs (i + 2)), .int (xs (i + 3)), .int (xs (i + 4)), .ref u] w = _ := a1
  have t1 := rr (i + 1) (by omega)
  have t2 := rr (i + 2) (by omega)
  have t3 := rr (i + 3) (by omega)
  have t4 := rr (i + 4) (by omega)
  refine ⟨S', w3, g3, ?_, h3⟩
  simp only [r1, r2, r3, r4, t1, t2, t3, t4, a1, km, a2, bk267_172, bk267_179, bk267_185, bk267_191, bk267_197, bk267_201, bk267_210, bk267_216, bk267_222, bk267_228, bk267_231, bk267_1437, bk267_1431, nI_add, Nat.reduceAdd, Option.bind_some, bct_v, bct_t, otl_s, otl_n, List.cons_append, List.nil_append, List.getElem?_cons_zero, List.getElem?_cons_succ, ↓reduceIte]

set_option maxHeartbeats 1000000 in
theorem lc_lay (h : LI b L xs x m u S w g k s) {i : Nat} (hi : i + 4 < L) : ∃ (S' : sS) (w' : am_Wd) (g' : Nat → Nat), am_run 267 236 [some (.ref b), some (.ref x), some (.ref m), some (.ref u), some (.int (nI i)), none, none, none] [] w = am_run 267 27 [some (.ref b), some (.ref x), some (.ref m), some (.ref u), some (.int (nI (i + 5))), none, none, none] [] w' ∧ LI b L xs x m u S' w' g' (k + 600) (s + 13200) := by
  have hb := h.2.2.2.2.2.1
  obtain ⟨kd, hr, cp, br, n, ws, mi, nd, dr, me, di, re⟩ := S
  have r1 := rd hb (i := i + 1) (by omega)
  obtain ⟨th, v, v', S', w2, w3, g3, hB, hv, a1, km, rr, a2, km3, ht, ho, h3⟩ := both (as := [.int (xs (i + 1))]) oI_f (wr_lay (xs (i + 1))) (fun ok => j_lay ok (xs (i + 1))) h
  have a1 : am_x 233 [.ref x, .int (xs (i + 1)), .ref u] w = _ := a1
  have t1 := rr (i + 1) (by omega)
  refine ⟨S', w3, g3, ?_, h3⟩
  simp only [r1, t1, a1, km, a2, bk267_236, bk267_243, bk267_247, bk267_256, bk267_259, bk267_1437, bk267_1431, nI_add, Nat.reduceAdd, Option.bind_some, bct_v, bct_t, otl_s, otl_n, List.cons_append, List.nil_append, List.getElem?_cons_zero, List.getElem?_cons_succ, ↓reduceIte]

set_option maxHeartbeats 1000000 in
theorem lc_cell (h : LI b L xs x m u S w g k s) {i : Nat} (hi : i + 4 < L) : ∃ (S' : sS) (w' : am_Wd) (g' : Nat → Nat), am_run 267 264 [some (.ref b), some (.ref x), some (.ref m), some (.ref u), some (.int (nI i)), none, none, none] [] w = am_run 267 27 [some (.ref b), some (.ref x), some (.ref m), some (.ref u), some (.int (nI (i + 5))), none, none, none] [] w' ∧ LI b L xs x m u S' w' g' (k + 600) (s + 13200) := by
  have hb := h.2.2.2.2.2.1
  obtain ⟨kd, hr, cp, br, n, ws, mi, nd, dr, me, di, re⟩ := S
  have r1 := rd hb (i := i + 1) (by omega)
  have r2 := rd hb (i := i + 2) (by omega)
  have r3 := rd hb (i := i + 3) (by omega)
  by_cases e2 : xs (i + 2) = nI 0
  · by_cases e3 : xs (i + 3) = nI 0
    · obtain ⟨th, v, v', S', w2, w3, g3, hB, hv, a1, km, rr, a2, km3, ht, ho, h3⟩ := both (as := [.int (xs (i + 1)), .int (nI 0), .int (nI 0)]) oI_f (wr_cell (xs (i + 1)) (nI 0) (nI 0)) (fun ok => j_cell ok (xs (i + 1)) false false) h
      have a1 : am_x 147 [.ref x, .int (xs (i + 1)), .int (nI 0), .int (nI 0), .ref u] w = _ := a1
      have t1 := rr (i + 1) (by omega)
      have t2 := rr (i + 2) (by omega)
      have t3 := rr (i + 3) (by omega)
      refine ⟨S', w3, g3, ?_, h3⟩
      simp only [r1, r2, r3, t1, t2, t3, a1, km, a2, e2, e3, bk267_264, bk267_271, bk267_277, bk267_284, bk267_280, bk267_285, bk267_291, bk267_298, bk267_294, bk267_299, bk267_303, bk267_312, bk267_318, bk267_325, bk267_321, bk267_326, bk267_332, bk267_339, bk267_335, bk267_340, bk267_343, bk267_1437, bk267_1431, nI_add, Nat.reduceAdd, Option.bind_some, bct_v, bct_t, otl_s, otl_n, List.cons_append, List.nil_append, List.getElem?_cons_zero, List.getElem?_cons_succ, ↓reduceIte]
    · obtain ⟨th, v, v', S', w2, w3, g3, hB, hv, a1, km, rr, a2, km3, ht, ho, h3⟩ := both (as := [.int (xs (i + 1)), .int (nI 0), .int (nI 1)]) oI_f (wr_cell (xs (i + 1)) (nI 0) (nI 1)) (fun ok => j_cell ok (xs (i + 1)) false true) h
      have a1 : am_x 147 [.ref x, .int (xs (i + 1)), .int (nI 0), .int (nI 1), .ref u] w = _ := a1
      have t1 := rr (i + 1) (by omega)
      have t2 := rr (i + 2) (by omega)
      have t3 := rr (i + 3) (by omega)
      refine ⟨S', w3, g3, ?_, h3⟩
      simp only [r1, r2, r3, t1, t2, t3, a1, km, a2, e2, e3, bk267_264, bk267_271, bk267_277, bk267_284, bk267_280, bk267_285, bk267_291, bk267_298, bk267_294, bk267_299, bk267_303, bk267_312, bk267_318, bk267_325, bk267_321, bk267_326, bk267_332, bk267_339, bk267_335, bk267_340, bk267_343, bk267_1437, bk267_1431, nI_add, Nat.reduceAdd, Option.bind_some, bct_v, bct_t, otl_s, otl_n, List.cons_append, List.nil_append, List.getElem?_cons_zero, List.getElem?_cons_succ, ↓reduceIte]
  · by_cases e3 : xs (i + 3) = nI 0
    · obtain ⟨th, v, v', S', w2, w3, g3, hB, hv, a1, km, rr, a2, km3, ht, ho, h3⟩ := both (as := [.int (xs (i + 1)), .int (nI 1), .int (nI 0)]) oI_f (wr_cell (xs (i + 1)) (nI 1) (nI 0)) (fun ok => j_cell ok (xs (i + 1)) true false) h
      have a1 : am_x 147 [.ref x, .int (xs (i + 1)), .int (nI 1), .int (nI 0), .ref u] w = _ := a1
      have t1 := rr (i + 1) (by omega)
      have t2 := rr (i + 2) (by omega)
      have t3 := rr (i + 3) (by omega)
      refine ⟨S', w3, g3, ?_, h3⟩
      simp only [r1, r2, r3, t1, t2, t3, a1, km, a2, e2, e3, bk267_264, bk267_271, bk267_277, bk267_284, bk267_280, bk267_285, bk267_291, bk267_298, bk267_294, bk267_299, bk267_303, bk267_312, bk267_318, bk267_325, bk267_321, bk267_326, bk267_332, bk267_339, bk267_335, bk267_340, bk267_343, bk267_1437, bk267_1431, nI_add, Nat.reduceAdd, Option.bind_some, bct_v, bct_t, otl_s, otl_n, List.cons_append, List.nil_append, List.getElem?_cons_zero, List.getElem?_cons_succ, ↓reduceIte]
    · obtain ⟨th, v, v', S', w2, w3, g3, hB, hv, a1, km, rr, a2, km3, ht, ho, h3⟩ := both (as := [.int (xs (i + 1)), .int (nI 1), .int (nI 1)]) oI_f (wr_cell (xs (i + 1)) (nI 1) (nI 1)) (fun ok => j_cell ok (xs (i + 1)) true true) h
      have a1 : am_x 147 [.ref x, .int (xs (i + 1)), .int (nI 1), .int (nI 1), .ref u] w = _ := a1
      have t1 := rr (i + 1) (by omega)
      have t2 := rr (i + 2) (by omega)
      have t3 := rr (i + 3) (by omega)
      refine ⟨S', w3, g3, ?_, h3⟩
      simp only [r1, r2, r3, t1, t2, t3, a1, km, a2, e2, e3, bk267_264, bk267_271, bk267_277, bk267_284, bk267_280, bk267_285, bk267_291, bk267_298, bk267_294, bk267_299, bk267_303, bk267_312, bk267_318, bk267_325, bk267_321, bk267_326, bk267_332, bk267_339, bk267_335, bk267_340, bk267_343, bk267_1437, bk267_1431, nI_add, Nat.reduceAdd, Option.bind_some, bct_v, bct_t, otl_s, otl_n, List.cons_append, List.nil_append, List.getElem?_cons_zero, List.getElem?_cons_succ, ↓reduceIte]

set_option maxHeartbeats 1000000 in
theorem lc_walker (h : LI b L xs x m u S w g k s) {i : Nat} (hi : i + 4 < L) : ∃ (S' : sS) (w' : am_Wd) (g' : Nat → Nat), am_run 267 348 [some (.ref b), some (.ref x), some (.ref m), some (.ref u), some (.int (nI i)), none, none, none] [] w = am_run 267 27 [some (.ref b), some (.ref x), some (.ref m), some (.ref u), some (.int (nI (i + 5))), none, none, none] [] w' ∧ LI b L xs x m u S' w' g' (k + 600) (s + 13200) := by
  have hb := h.2.2.2.2.2.1
  obtain ⟨kd, hr, cp, br, n, ws, mi, nd, dr, me, di, re⟩ := S
  have r1 := rd hb (i := i + 1) (by omega)
  have r2 := rd hb (i := i + 2) (by omega)
  have r3 := rd hb (i := i + 3) (by omega)
  have r4 := rd hb (i := i + 4) (by omega)
  by_cases e4 : xs (i + 4) = nI 0
  · obtain ⟨th, v, v', S', w2, w3, g3, hB, hv, a1, km, rr, a2, km3, ht, ho, h3⟩ := both (as := [.int (xs (i + 1)), .int (xs (i + 2)), .int (xs (i + 3)), .int (nI 0)]) oI_f (wr_walker (xs (i + 1)) (xs (i + 2)) (xs (i + 3)) (nI 0)) (fun ok => j_walker ok (xs (i + 1)) (xs (i + 2)) (xs (i + 3)) false) h
    have a1 : am_x 217 [.ref x, .int (xs (i + 1)), .int (xs (i + 2)), .int (xs (i + 3)), .int (nI 0), .ref u] w = _ := a1
    have t1 := rr (i + 1) (by omega)
    have t2 := rr (i + 2) (by omega)
    have t3 := rr (i + 3) (by omega)
    have t4 := rr (i + 4) (by omega)
    refine ⟨S', w3, g3, ?_, h3⟩
    simp only [r1, r2, r3, r4, t1, t2, t3, t4, a1, km, a2, e4, bk267_348, bk267_355, bk267_361, bk267_367, bk267_373, bk267_380, bk267_376, bk267_381, bk267_385, bk267_394, bk267_400, bk267_406, bk267_412, bk267_419, bk267_415, bk267_420, bk267_423, bk267_1437, bk267_1431, nI_add, Nat.reduceAdd, Option.bind_some, bct_v, bct_t, otl_s, otl_n, List.cons_append, List.nil_append, List.getElem?_cons_zero, List.getElem?_cons_succ, ↓reduceIte]
  · obtain ⟨th, v, v', S', w2, w3, g3, hB, hv, a1, km, rr, a2, km3, ht, ho, h3⟩ := both (as := [.int (xs (i + 1)), .int (xs (i + 2)), .int (xs (i + 3)), .int (nI 1)]) oI_f (wr_walker (xs (i + 1)) (xs (i + 2)) (xs (i + 3)) (nI 1)) (fun ok => j_walker ok (xs (i + 1)) (xs (i + 2)) (xs (i + 3)) true) h
    have a1 : am_x 217 [.ref x, .int (xs (i + 1)), .int (xs (i + 2)), .int (xs (i + 3)), .int (nI 1), .ref u] w = _ := a1
    have t1 := rr (i + 1) (by omega)
    have t2 := rr (i + 2) (by omega)
    have t3 := rr (i + 3) (by omega)
    have t4 := rr (i + 4) (by omega)
    refine ⟨S', w3, g3, ?_, h3⟩
    simp only [r1, r2, r3, r4, t1, t2, t3, t4, a1, km, a2, e4, bk267_348, bk267_355, bk267_361, bk267_367, bk267_373, bk267_380, bk267_376, bk267_381, bk267_385, bk267_394, bk267_400, bk267_406, bk267_412, bk267_419, bk267_415, bk267_420, bk267_423, bk267_1437, bk267_1431, nI_add, Nat.reduceAdd, Option.bind_some, bct_v, bct_t, otl_s, otl_n, List.cons_append, List.nil_append, List.getElem?_cons_zero, List.getElem?_cons_succ, ↓reduceIte]

set_option maxHeartbeats 1000000 in
theorem lc_forward (h : LI b L xs x m u S w g k s) {i : Nat} (hi : i + 4 < L) : ∃ (S' : sS) (w' : am_Wd) (g' : Nat → Nat), am_run 267 428 [some (.ref b), some (.ref x), some (.ref m), some (.ref u), some (.int (nI i)), none, none, none] [] w = am_run 267 27 [some (.ref b), some (.ref x), some (.ref m), some (.ref u), some (.int (nI (i + 5))), none, none, none] [] w' ∧ LI b L xs x m u S' w' g' (k + 600) (s + 13200) := by
  have hb := h.2.2.2.2.2.1
  obtain ⟨kd, hr, cp, br, n, ws, mi, nd, dr, me, di, re⟩ := S
  have r1 := rd hb (i := i + 1) (by omega)
  have r2 := rd hb (i := i + 2) (by omega)
  by_cases e2 : xs (i + 2) = nI 0
  · obtain ⟨th, v, v', S', w2, w3, g3, hB, hv, a1, km, rr, a2, km3, ht, ho, h3⟩ := both (as := [.int (xs (i + 1)), .int (nI 0)]) oZ_f (wr_forward (xs (i + 1)) (nI 0)) (fun ok => j_forward ok (xs (i + 1)) false) h
    have a1 : am_x 253 [.ref x, .int (xs (i + 1)), .int (nI 0), .ref u] w = _ := a1
    have t1 := rr (i + 1) (by omega)
    have t2 := rr (i + 2) (by omega)
    refine ⟨S', w3, g3, ?_, h3⟩
    simp only [r1, r2, t1, t2, a1, km, a2, e2, bk267_428, bk267_435, bk267_441, bk267_448, bk267_444, bk267_449, bk267_453, bk267_462, bk267_468, bk267_475, bk267_471, bk267_476, bk267_479, bk267_1437, bk267_1431, nI_add, Nat.reduceAdd, Option.bind_some, bct_v, bct_t, otl_s, otl_n, List.cons_append, List.nil_append, List.getElem?_cons_zero, List.getElem?_cons_succ, ↓reduceIte]
  · obtain ⟨th, v, v', S', w2, w3, g3, hB, hv, a1, km, rr, a2, km3, ht, ho, h3⟩ := both (as := [.int (xs (i + 1)), .int (nI 1)]) oZ_f (wr_forward (xs (i + 1)) (nI 1)) (fun ok => j_forward ok (xs (i + 1)) true) h
    have a1 : am_x 253 [.ref x, .int (xs (i + 1)), .int (nI 1), .ref u] w = _ := a1
    have t1 := rr (i + 1) (by omega)
    have t2 := rr (i + 2) (by omega)
    refine ⟨S', w3, g3, ?_, h3⟩
    simp only [r1, r2, t1, t2, a1, km, a2, e2, bk267_428, bk267_435, bk267_441, bk267_448, bk267_444, bk267_449, bk267_453, bk267_462, bk267_468, bk267_475, bk267_471, bk267_476, bk267_479, bk267_1437, bk267_1431, nI_add, Nat.reduceAdd, Option.bind_some, bct_v, bct_t, otl_s, otl_n, List.cons_append, List.nil_append, List.getElem?_cons_zero, List.getElem?_cons_succ, ↓reduceIte]

set_option maxHeartbeats 1000000 in
theorem lc_turn (h : LI b L xs x m u S w g k s) {i : Nat} (hi : i + 4 < L) : ∃ (S' : sS) (w' : am_Wd) (g' : Nat → Nat), am_run 267 484 [some (.ref b), some (.ref x), some (.ref m), some (.ref u), some (.int (nI i)), none, none, none] [] w = am_run 267 27 [some (.ref b), some (.ref x), some (.ref m), some (.ref u), some (.int (nI (i + 5))), none, none, none] [] w' ∧ LI b L xs x m u S' w' g' (k + 600) (s + 13200) := by
  have hb := h.2.2.2.2.2.1
  obtain ⟨kd, hr, cp, br, n, ws, mi, nd, dr, me, di, re⟩ := S
  have r1 := rd hb (i := i + 1) (by omega)
  have r2 := rd hb (i := i + 2) (by omega)
  have r3 := rd hb (i := i + 3) (by omega)
  by_cases e2 : xs (i + 2) = nI 0
  · by_cases e3 : xs (i + 3) = nI 0
    · obtain ⟨th, v, v', S', w2, w3, g3, hB, hv, a1, km, rr, a2, km3, ht, ho, h3⟩ := both (as := [.int (xs (i + 1)), .int (nI 0), .int (nI 0)]) oI_f (wr_turn (xs (i + 1)) (nI 0) (nI 0)) (fun ok => j_turn ok (xs (i + 1)) false false) h
      have a1 : am_x 254 [.ref x, .int (xs (i + 1)), .int (nI 0), .int (nI 0), .ref u] w = _ := a1
      have t1 := rr (i + 1) (by omega)
      have t2 := rr (i + 2) (by omega)
      have t3 := rr (i + 3) (by omega)
      refine ⟨S', w3, g3, ?_, h3⟩
      simp only [r1, r2, r3, t1, t2, t3, a1, km, a2, e2, e3, bk267_484, bk267_491, bk267_497, bk267_504, bk267_500, bk267_505, bk267_511, bk267_518, bk267_514, bk267_519, bk267_523, bk267_532, bk267_538, bk267_545, bk267_541, bk267_546, bk267_552, bk267_559, bk267_555, bk267_560, bk267_563, bk267_1437, bk267_1431, nI_add, Nat.reduceAdd, Option.bind_some, bct_v, bct_t, otl_s, otl_n, List.cons_append, List.nil_append, List.getElem?_cons_zero, List.getElem?_cons_succ, ↓reduceIte]
    · obtain ⟨th, v, v', S', w2, w3, g3, hB, hv, a1, km, rr, a2, km3, ht, ho, h3⟩ := both (as := [.int (xs (i + 1)), .int (nI 0), .int (nI 1)]) oI_f (wr_turn (xs (i + 1)) (nI 0) (nI 1)) (fun ok => j_turn ok (xs (i + 1)) false true) h
      have a1 : am_x 254 [.ref x, .int (xs (i + 1)), .int (nI 0), .int (nI 1), .ref u] w = _ := a1
      have t1 := rr (i + 1) (by omega)
      have t2 := rr (i + 2) (by omega)
      have t3 := rr (i + 3) (by omega)
      refine ⟨S', w3, g3, ?_, h3⟩
      simp only [r1, r2, r3, t1, t2, t3, a1, km, a2, e2, e3, bk267_484, bk267_491, bk267_497, bk267_504, bk267_500, bk267_505, bk267_511, bk267_518, bk267_514, bk267_519, bk267_523, bk267_532, bk267_538, bk267_545, bk267_541, bk267_546, bk267_552, bk267_559, bk267_555, bk267_560, bk267_563, bk267_1437, bk267_1431, nI_add, Nat.reduceAdd, Option.bind_some, bct_v, bct_t, otl_s, otl_n, List.cons_append, List.nil_append, List.getElem?_cons_zero, List.getElem?_cons_succ, ↓reduceIte]
  · by_cases e3 : xs (i + 3) = nI 0
    · obtain ⟨th, v, v', S', w2, w3, g3, hB, hv, a1, km, rr, a2, km3, ht, ho, h3⟩ := both (as := [.int (xs (i + 1)), .int (nI 1), .int (nI 0)]) oI_f (wr_turn (xs (i + 1)) (nI 1) (nI 0)) (fun ok => j_turn ok (xs (i + 1)) true false) h
      have a1 : am_x 254 [.ref x, .int (xs (i + 1)), .int (nI 1), .int (nI 0), .ref u] w = _ := a1
      have t1 := rr (i + 1) (by omega)
      have t2 := rr (i + 2) (by omega)
      have t3 := rr (i + 3) (by omega)
      refine ⟨S', w3, g3, ?_, h3⟩
      simp only [r1, r2, r3, t1, t2, t3, a1, km, a2, e2, e3, bk267_484, bk267_491, bk267_497, bk267_504, bk267_500, bk267_505, bk267_511, bk267_518, bk267_514, bk267_519, bk267_523, bk267_532, bk267_538, bk267_545, bk267_541, bk267_546, bk267_552, bk267_559, bk267_555, bk267_560, bk267_563, bk267_1437, bk267_1431, nI_add, Nat.reduceAdd, Option.bind_some, bct_v, bct_t, otl_s, otl_n, List.cons_append, List.nil_append, List.getElem?_cons_zero, List.getElem?_cons_succ, ↓reduceIte]
    · obtain ⟨th, v, v', S', w2, w3, g3, hB, hv, a1, km, rr, a2, km3, ht, ho, h3⟩ := both (as := [.int (xs (i + 1)), .int (nI 1), .int (nI 1)]) oI_f (wr_turn (xs (i + 1)) (nI 1) (nI 1)) (fun ok => j_turn ok (xs (i + 1)) true true) h
      have a1 : am_x 254 [.ref x, .int (xs (i + 1)), .int (nI 1), .int (nI 1), .ref u] w = _ := a1
      have t1 := rr (i + 1) (by omega)
      have t2 := rr (i + 2) (by omega)
      have t3 := rr (i + 3) (by omega)
      refine ⟨S', w3, g3, ?_, h3⟩
      simp only [r1, r2, r3, t1, t2, t3, a1, km, a2, e2, e3, bk267_484, bk267_491, bk267_497, bk267_504, bk267_500, bk267_505, bk267_511, bk267_518, bk267_514, bk267_519, bk267_523, bk267_532, bk267_538, bk267_545, bk267_541, bk267_546, bk267_552, bk267_559, bk267_555, bk267_560, bk267_563, bk267_1437, bk267_1431, nI_add, Nat.reduceAdd, Option.bind_some, bct_v, bct_t, otl_s, otl_n, List.cons_append, List.nil_append, List.getElem?_cons_zero, List.getElem?_cons_succ, ↓reduceIte]

set_option maxHeartbeats 1000000 in
theorem lc_feel (h : LI b L xs x m u S w g k s) {i : Nat} (hi : i + 4 < L) : ∃ (S' : sS) (w' : am_Wd) (g' : Nat → Nat), am_run 267 568 [some (.ref b), some (.ref x), some (.ref m), some (.ref u), some (.int (nI i)), none, none, none] [] w = am_run 267 27 [some (.ref b), some (.ref x), some (.ref m), some (.ref u), some (.int (nI (i + 5))), none, none, none] [] w' ∧ LI b L xs x m u S' w' g' (k + 600) (s + 13200) := by
  have hb := h.2.2.2.2.2.1
  obtain ⟨kd, hr, cp, br, n, ws, mi, nd, dr, me, di, re⟩ := S
  have r1 := rd hb (i := i + 1) (by omega)
  have r2 := rd hb (i := i + 2) (by omega)
  by_cases e2 : xs (i + 2) = nI 0
  · obtain ⟨th, v, v', S', w2, w3, g3, hB, hv, a1, km, rr, a2, km3, ht, ho, h3⟩ := both (as := [.int (xs (i + 1)), .int (nI 0)]) oI_f (wr_feel (xs (i + 1)) (nI 0)) (fun ok => j_feel ok (xs (i + 1)) false) h
    have a1 : am_x 255 [.ref x, .int (xs (i + 1)), .int (nI 0), .ref u] w = _ := a1
    have t1 := rr (i + 1) (by omega)
    have t2 := rr (i + 2) (by omega)
    refine ⟨S', w3, g3, ?_, h3⟩
    simp only [r1, r2, t1, t2, a1, km, a2, e2, bk267_568, bk267_575, bk267_581, bk267_588, bk267_584, bk267_589, bk267_593, bk267_602, bk267_608, bk267_615, bk267_611, bk267_616, bk267_619, bk267_1437, bk267_1431, nI_add, Nat.reduceAdd, Option.bind_some, bct_v, bct_t, otl_s, otl_n, List.cons_append, List.nil_append, List.getElem?_cons_zero, List.getElem?_cons_succ, ↓reduceIte]
  · obtain ⟨th, v, v', S', w2, w3, g3, hB, hv, a1, km, rr, a2, km3, ht, ho, h3⟩ := both (as := [.int (xs (i + 1)), .int (nI 1)]) oI_f (wr_feel (xs (i + 1)) (nI 1)) (fun ok => j_feel ok (xs (i + 1)) true) h
    have a1 : am_x 255 [.ref x, .int (xs (i + 1)), .int (nI 1), .ref u] w = _ := a1
    have t1 := rr (i + 1) (by omega)
    have t2 := rr (i + 2) (by omega)
    refine ⟨S', w3, g3, ?_, h3⟩
    simp only [r1, r2, t1, t2, a1, km, a2, e2, bk267_568, bk267_575, bk267_581, bk267_588, bk267_584, bk267_589, bk267_593, bk267_602, bk267_608, bk267_615, bk267_611, bk267_616, bk267_619, bk267_1437, bk267_1431, nI_add, Nat.reduceAdd, Option.bind_some, bct_v, bct_t, otl_s, otl_n, List.cons_append, List.nil_append, List.getElem?_cons_zero, List.getElem?_cons_succ, ↓reduceIte]

set_option maxHeartbeats 1000000 in
theorem lc_listen (h : LI b L xs x m u S w g k s) {i : Nat} (hi : i + 4 < L) : ∃ (S' : sS) (w' : am_Wd) (g' : Nat → Nat), am_run 267 624 [some (.ref b), some (.ref x), some (.ref m), some (.ref u), some (.int (nI i)), none, none, none] [] w = am_run 267 27 [some (.ref b), some (.ref x), some (.ref m), some (.ref u), some (.int (nI (i + 5))), none, none, none] [] w' ∧ LI b L xs x m u S' w' g' (k + 600) (s + 13200) := by
  have hb := h.2.2.2.2.2.1
  obtain ⟨kd, hr, cp, br, n, ws, mi, nd, dr, me, di, re⟩ := S
  have r1 := rd hb (i := i + 1) (by omega)
  have r2 := rd hb (i := i + 2) (by omega)
  by_cases e2 : xs (i + 2) = nI 0
  · obtain ⟨th, v, v', S', w2, w3, g3, hB, hv, a1, km, rr, a2, km3, ht, ho, h3⟩ := both (as := [.int (xs (i + 1)), .int (nI 0)]) oI_f (wr_listen (xs (i + 1)) (nI 0)) (fun ok => j_listen ok (xs (i + 1)) false) h
    have a1 : am_x 256 [.ref x, .int (xs (i + 1)), .int (nI 0), .ref u] w = _ := a1
    have t1 := rr (i + 1) (by omega)
    have t2 := rr (i + 2) (by omega)
    refine ⟨S', w3, g3, ?_, h3⟩
    simp only [r1, r2, t1, t2, a1, km, a2, e2, bk267_624, bk267_631, bk267_637, bk267_644, bk267_640, bk267_645, bk267_649, bk267_658, bk267_664, bk267_671, bk267_667, bk267_672, bk267_675, bk267_1437, bk267_1431, nI_add, Nat.reduceAdd, Option.bind_some, bct_v, bct_t, otl_s, otl_n, List.cons_append, List.nil_append, List.getElem?_cons_zero, List.getElem?_cons_succ, ↓reduceIte]
  · obtain ⟨th, v, v', S', w2, w3, g3, hB, hv, a1, km, rr, a2, km3, ht, ho, h3⟩ := both (as := [.int (xs (i + 1)), .int (nI 1)]) oI_f (wr_listen (xs (i + 1)) (nI 1)) (fun ok => j_listen ok (xs (i + 1)) true) h
    have a1 : am_x 256 [.ref x, .int (xs (i + 1)), .int (nI 1), .ref u] w = _ := a1
    have t1 := rr (i + 1) (by omega)
    have t2 := rr (i + 2) (by omega)
    refine ⟨S', w3, g3, ?_, h3⟩
    simp only [r1, r2, t1, t2, a1, km, a2, e2, bk267_624, bk267_631, bk267_637, bk267_644, bk267_640, bk267_645, bk267_649, bk267_658, bk267_664, bk267_671, bk267_667, bk267_672, bk267_675, bk267_1437, bk267_1431, nI_add, Nat.reduceAdd, Option.bind_some, bct_v, bct_t, otl_s, otl_n, List.cons_append, List.nil_append, List.getElem?_cons_zero, List.getElem?_cons_succ, ↓reduceIte]

set_option maxHeartbeats 1000000 in
theorem lc_charge (h : LI b L xs x m u S w g k s) {i : Nat} (hi : i + 4 < L) : ∃ (S' : sS) (w' : am_Wd) (g' : Nat → Nat), am_run 267 680 [some (.ref b), some (.ref x), some (.ref m), some (.ref u), some (.int (nI i)), none, none, none] [] w = am_run 267 27 [some (.ref b), some (.ref x), some (.ref m), some (.ref u), some (.int (nI (i + 5))), none, none, none] [] w' ∧ LI b L xs x m u S' w' g' (k + 600) (s + 13200) := by
  have hb := h.2.2.2.2.2.1
  obtain ⟨kd, hr, cp, br, n, ws, mi, nd, dr, me, di, re⟩ := S
  have r1 := rd hb (i := i + 1) (by omega)
  have r2 := rd hb (i := i + 2) (by omega)
  obtain ⟨th, v, v', S', w2, w3, g3, hB, hv, a1, km, rr, a2, km3, ht, ho, h3⟩ := both (as := [.int (xs (i + 1)), .int (xs (i + 2))]) oI_f (wr_charge (xs (i + 1)) (xs (i + 2))) (fun ok => j_charge ok (xs (i + 1)) (xs (i + 2))) h
  have a1 : am_x 187 [.ref x, .int (xs (i + 1)), .int (xs (i + 2)), .ref u] w = _ := a1
  have t1 := rr (i + 1) (by omega)
  have t2 := rr (i + 2) (by omega)
  refine ⟨S', w3, g3, ?_, h3⟩
  simp only [r1, r2, t1, t2, a1, km, a2, bk267_680, bk267_687, bk267_693, bk267_697, bk267_706, bk267_712, bk267_715, bk267_1437, bk267_1431, nI_add, Nat.reduceAdd, Option.bind_some, bct_v, bct_t, otl_s, otl_n, List.cons_append, List.nil_append, List.getElem?_cons_zero, List.getElem?_cons_succ, ↓reduceIte]

set_option maxHeartbeats 1000000 in
theorem lc_tellPose (h : LI b L xs x m u S w g k s) {i : Nat} (hi : i + 4 < L) : ∃ (S' : sS) (w' : am_Wd) (g' : Nat → Nat), am_run 267 720 [some (.ref b), some (.ref x), some (.ref m), some (.ref u), some (.int (nI i)), none, none, none] [] w = am_run 267 27 [some (.ref b), some (.ref x), some (.ref m), some (.ref u), some (.int (nI (i + 5))), none, none, none] [] w' ∧ LI b L xs x m u S' w' g' (k + 600) (s + 13200) := by
  have hb := h.2.2.2.2.2.1
  obtain ⟨kd, hr, cp, br, n, ws, mi, nd, dr, me, di, re⟩ := S
  have r1 := rd hb (i := i + 1) (by omega)
  obtain ⟨th, v, v', S', w2, w3, g3, hB, hv, a1, km, rr, a2, km3, ht, ho, h3⟩ := both (as := [.int (xs (i + 1))]) oI_f (wr_tellPose (xs (i + 1))) (fun ok => j_tellPose ok (xs (i + 1))) h
  have a1 : am_x 188 [.ref x, .int (xs (i + 1)), .ref u] w = _ := a1
  have t1 := rr (i + 1) (by omega)
  refine ⟨S', w3, g3, ?_, h3⟩
  simp only [r1, t1, a1, km, a2, bk267_720, bk267_727, bk267_731, bk267_740, bk267_743, bk267_1437, bk267_1431, nI_add, Nat.reduceAdd, Option.bind_some, bct_v, bct_t, otl_s, otl_n, List.cons_append, List.nil_append, List.getElem?_cons_zero, List.getElem?_cons_succ, ↓reduceIte]

set_option maxHeartbeats 1000000 in
theorem lc_meet (h : LI b L xs x m u S w g k s) {i : Nat} (hi : i + 4 < L) : ∃ (S' : sS) (w' : am_Wd) (g' : Nat → Nat), am_run 267 748 [some (.ref b), some (.ref x), some (.ref m), some (.ref u), some (.int (nI i)), none, none, none] [] w = am_run 267 27 [some (.ref b), some (.ref x), some (.ref m), some (.ref u), some (.int (nI (i + 5))), none, none, none] [] w' ∧ LI b L xs x m u S' w' g' (k + 600) (s + 13200) := by
  have hb := h.2.2.2.2.2.1
  obtain ⟨kd, hr, cp, br, n, ws, mi, nd, dr, me, di, re⟩ := S
  have r1 := rd hb (i := i + 1) (by omega)
  have r2 := rd hb (i := i + 2) (by omega)
  obtain ⟨th, v, v', S', w2, w3, g3, hB, hv, a1, km, rr, a2, km3, ht, ho, h3⟩ := both (as := [.int (xs (i + 1)), .int (xs (i + 2))]) oI_f (wr_meet (xs (i + 1)) (xs (i + 2))) (fun ok => j_meet ok (xs (i + 1)) (xs (i + 2))) h
  have a1 : am_x 218 [.ref x, .int (xs (i + 1)), .int (xs (i + 2)), .ref u] w = _ := a1
  have t1 := rr (i + 1) (by omega)
  have t2 := rr (i + 2) (by omega)
  refine ⟨S', w3, g3, ?_, h3⟩
  simp only [r1, r2, t1, t2, a1, km, a2, bk267_748, bk267_755, bk267_761, bk267_765, bk267_774, bk267_780, bk267_783, bk267_1437, bk267_1431, nI_add, Nat.reduceAdd, Option.bind_some, bct_v, bct_t, otl_s, otl_n, List.cons_append, List.nil_append, List.getElem?_cons_zero, List.getElem?_cons_succ, ↓reduceIte]

set_option maxHeartbeats 1000000 in
theorem lc_pass (h : LI b L xs x m u S w g k s) {i : Nat} (hi : i + 4 < L) : ∃ (S' : sS) (w' : am_Wd) (g' : Nat → Nat), am_run 267 788 [some (.ref b), some (.ref x), some (.ref m), some (.ref u), some (.int (nI i)), none, none, none] [] w = am_run 267 27 [some (.ref b), some (.ref x), some (.ref m), some (.ref u), some (.int (nI (i + 5))), none, none, none] [] w' ∧ LI b L xs x m u S' w' g' (k + 600) (s + 13200) := by
  have hb := h.2.2.2.2.2.1
  obtain ⟨kd, hr, cp, br, n, ws, mi, nd, dr, me, di, re⟩ := S
  have r1 := rd hb (i := i + 1) (by omega)
  obtain ⟨th, v, v', S', w2, w3, g3, hB, hv, a1, km, rr, a2, km3, ht, ho, h3⟩ := both (as := [.int (xs (i + 1))]) oI_f (wr_pass (xs (i + 1))) (fun ok => j_pass ok (xs (i + 1))) h
  have a1 : am_x 189 [.ref x, .int (xs (i + 1)), .ref u] w = _ := a1
  have t1 := rr (i + 1) (by omega)
  refine ⟨S', w3, g3, ?_, h3⟩
  simp only [r1, t1, a1, km, a2, bk267_788, bk267_795, bk267_799, bk267_808, bk267_811, bk267_1437, bk267_1431, nI_add, Nat.reduceAdd, Option.bind_some, bct_v, bct_t, otl_s, otl_n, List.cons_append, List.nil_append, List.getElem?_cons_zero, List.getElem?_cons_succ, ↓reduceIte]

set_option maxHeartbeats 1000000 in
theorem lc_call (h : LI b L xs x m u S w g k s) {i : Nat} (hi : i + 4 < L) : ∃ (S' : sS) (w' : am_Wd) (g' : Nat → Nat), am_run 267 816 [some (.ref b), some (.ref x), some (.ref m), some (.ref u), some (.int (nI i)), none, none, none] [] w = am_run 267 27 [some (.ref b), some (.ref x), some (.ref m), some (.ref u), some (.int (nI (i + 5))), none, none, none] [] w' ∧ LI b L xs x m u S' w' g' (k + 600) (s + 13200) := by
  have hb := h.2.2.2.2.2.1
  obtain ⟨kd, hr, cp, br, n, ws, mi, nd, dr, me, di, re⟩ := S
  obtain ⟨v, S', w2, w3, g3, kx, a1, km, a2, h3⟩ := both0 (fun ok => j_call ok) h
  refine ⟨S', w3, g3, ?_, h3⟩
  simp only [kx, a1, km, a2, cmp_s, bk267_816, bk267_820, bk267_825, bk267_1437, bk267_1431, nI_add, Nat.reduceAdd, Option.bind_some, bct_v, bct_t, otl_s, otl_n, List.cons_append, List.nil_append, List.getElem?_cons_zero, List.getElem?_cons_succ, ↓reduceIte]

set_option maxHeartbeats 1000000 in
theorem lc_ofEdge (h : LI b L xs x m u S w g k s) {i : Nat} (hi : i + 4 < L) : ∃ (S' : sS) (w' : am_Wd) (g' : Nat → Nat), am_run 267 829 [some (.ref b), some (.ref x), some (.ref m), some (.ref u), some (.int (nI i)), none, none, none] [] w = am_run 267 27 [some (.ref b), some (.ref x), some (.ref m), some (.ref u), some (.int (nI (i + 5))), none, none, none] [] w' ∧ LI b L xs x m u S' w' g' (k + 600) (s + 13200) := by
  have hb := h.2.2.2.2.2.1
  obtain ⟨kd, hr, cp, br, n, ws, mi, nd, dr, me, di, re⟩ := S
  have r1 := rd hb (i := i + 1) (by omega)
  have r2 := rd hb (i := i + 2) (by omega)
  have r3 := rd hb (i := i + 3) (by omega)
  obtain ⟨th, v, v', S', w2, w3, g3, hB, hv, a1, km, rr, a2, km3, ht, ho, h3⟩ := both (as := [.int (xs (i + 1)), .int (xs (i + 2)), .int (xs (i + 3))]) oI_f (wr_ofEdge (xs (i + 1)) (xs (i + 2)) (xs (i + 3))) (fun ok => j_ofEdge ok (xs (i + 1)) (xs (i + 2)) (xs (i + 3))) h
  have a1 : am_x 219 [.ref x, .int (xs (i + 1)), .int (xs (i + 2)), .int (xs (i + 3)), .ref u] w = _ := a1
  have t1 := rr (i + 1) (by omega)
  have t2 := rr (i + 2) (by omega)
  have t3 := rr (i + 3) (by omega)
  refine ⟨S', w3, g3, ?_, h3⟩
  simp only [r1, r2, r3, t1, t2, t3, a1, km, a2, bk267_829, bk267_836, bk267_842, bk267_848, bk267_852, bk267_861, bk267_867, bk267_873, bk267_876, bk267_1437, bk267_1431, nI_add, Nat.reduceAdd, Option.bind_some, bct_v, bct_t, otl_s, otl_n, List.cons_append, List.nil_append, List.getElem?_cons_zero, List.getElem?_cons_succ, ↓reduceIte]

set_option maxHeartbeats 1000000 in
theorem lc_ofWalker (h : LI b L xs x m u S w g k s) {i : Nat} (hi : i + 4 < L) : ∃ (S' : sS) (w' : am_Wd) (g' : Nat → Nat), am_run 267 881 [some (.ref b), some (.ref x), some (.ref m), some (.ref u), some (.int (nI i)), none, none, none] [] w = am_run 267 27 [some (.ref b), some (.ref x), some (.ref m), some (.ref u), some (.int (nI (i + 5))), none, none, none] [] w' ∧ LI b L xs x m u S' w' g' (k + 600) (s + 13200) := by
  have hb := h.2.2.2.2.2.1
  obtain ⟨kd, hr, cp, br, n, ws, mi, nd, dr, me, di, re⟩ := S
  have r1 := rd hb (i := i + 1) (by omega)
  have r2 := rd hb (i := i + 2) (by omega)
  obtain ⟨th, v, v', S', w2, w3, g3, hB, hv, a1, km, rr, a2, km3, ht, ho, h3⟩ := both (as := [.int (xs (i + 1)), .int (xs (i + 2))]) oI_f (wr_ofWalker (xs (i + 1)) (xs (i + 2))) (fun ok => j_ofWalker ok (xs (i + 1)) (xs (i + 2))) h
  have a1 : am_x 234 [.ref x, .int (xs (i + 1)), .int (xs (i + 2)), .ref u] w = _ := a1
  have t1 := rr (i + 1) (by omega)
  have t2 := rr (i + 2) (by omega)
  refine ⟨S', w3, g3, ?_, h3⟩
  simp only [r1, r2, t1, t2, a1, km, a2, bk267_881, bk267_888, bk267_894, bk267_898, bk267_907, bk267_913, bk267_916, bk267_1437, bk267_1431, nI_add, Nat.reduceAdd, Option.bind_some, bct_v, bct_t, otl_s, otl_n, List.cons_append, List.nil_append, List.getElem?_cons_zero, List.getElem?_cons_succ, ↓reduceIte]

set_option maxHeartbeats 1000000 in
theorem lc_house (h : LI b L xs x m u S w g k s) {i : Nat} (hi : i + 4 < L) : ∃ (S' : sS) (w' : am_Wd) (g' : Nat → Nat), am_run 267 921 [some (.ref b), some (.ref x), some (.ref m), some (.ref u), some (.int (nI i)), none, none, none] [] w = am_run 267 27 [some (.ref b), some (.ref x), some (.ref m), some (.ref u), some (.int (nI (i + 5))), none, none, none] [] w' ∧ LI b L xs x m u S' w' g' (k + 600) (s + 13200) := by
  have hb := h.2.2.2.2.2.1
  obtain ⟨kd, hr, cp, br, n, ws, mi, nd, dr, me, di, re⟩ := S
  have r1 := rd hb (i := i + 1) (by omega)
  obtain ⟨th, v, v', S', w2, w3, g3, hB, hv, a1, km, rr, a2, km3, ht, ho, h3⟩ := both (as := [.int (xs (i + 1))]) oI_f (wr_house (xs (i + 1))) (fun ok => j_house ok (xs (i + 1))) h
  have a1 : am_x 190 [.ref x, .int (xs (i + 1)), .ref u] w = _ := a1
  have t1 := rr (i + 1) (by omega)
  refine ⟨S', w3, g3, ?_, h3⟩
  simp only [r1, t1, a1, km, a2, bk267_921, bk267_928, bk267_932, bk267_941, bk267_944, bk267_1437, bk267_1431, nI_add, Nat.reduceAdd, Option.bind_some, bct_v, bct_t, otl_s, otl_n, List.cons_append, List.nil_append, List.getElem?_cons_zero, List.getElem?_cons_succ, ↓reduceIte]

set_option maxHeartbeats 1000000 in
theorem lc_row (h : LI b L xs x m u S w g k s) {i : Nat} (hi : i + 4 < L) : ∃ (S' : sS) (w' : am_Wd) (g' : Nat → Nat), am_run 267 949 [some (.ref b), some (.ref x), some (.ref m), some (.ref u), some (.int (nI i)), none, none, none] [] w = am_run 267 27 [some (.ref b), some (.ref x), some (.ref m), some (.ref u), some (.int (nI (i + 5))), none, none, none] [] w' ∧ LI b L xs x m u S' w' g' (k + 600) (s + 13200) := by
  have hb := h.2.2.2.2.2.1
  obtain ⟨kd, hr, cp, br, n, ws, mi, nd, dr, me, di, re⟩ := S
  have r1 := rd hb (i := i + 1) (by omega)
  obtain ⟨th, v, w2, w3, g3, a1, km, rr, a2, h3⟩ := bothR (z := xs (i + 1)) (fun ok => j_row ok _) h
  have t1 := rr (i + 1) (by omega)
  refine ⟨_, w3, g3, ?_, h3⟩
  simp only [r1, a1, km, t1, a2, bk267_949, bk267_956, bk267_960, bk267_969, bk267_972, bk267_1437, bk267_1431, nI_add, Nat.reduceAdd, Option.bind_some, bct_v, bct_t, otl_s, otl_n, List.cons_append, List.nil_append, List.getElem?_cons_zero, List.getElem?_cons_succ, ↓reduceIte]

set_option maxHeartbeats 1000000 in
theorem lc_map (h : LI b L xs x m u S w g k s) {i : Nat} (hi : i + 4 < L) : ∃ (S' : sS) (w' : am_Wd) (g' : Nat → Nat), am_run 267 977 [some (.ref b), some (.ref x), some (.ref m), some (.ref u), some (.int (nI i)), none, none, none] [] w = am_run 267 27 [some (.ref b), some (.ref x), some (.ref m), some (.ref u), some (.int (nI (i + 5))), none, none, none] [] w' ∧ LI b L xs x m u S' w' g' (k + 600) (s + 13200) := by
  have hb := h.2.2.2.2.2.1
  obtain ⟨kd, hr, cp, br, n, ws, mi, nd, dr, me, di, re⟩ := S
  have r1 := rd hb (i := i + 1) (by omega)
  have r2 := rd hb (i := i + 2) (by omega)
  have r3 := rd hb (i := i + 3) (by omega)
  obtain ⟨th, v, v', S', w2, w3, g3, hB, hv, a1, km, rr, a2, km3, ht, ho, h3⟩ := both (as := [.int (xs (i + 1)), .int (xs (i + 2)), .int (xs (i + 3))]) oI_f (wr_map (xs (i + 1)) (xs (i + 2)) (xs (i + 3))) (fun ok => j_map ok (xs (i + 1)) (xs (i + 2)) (xs (i + 3))) h
  have a1 : am_x 191 [.ref x, .int (xs (i + 1)), .int (xs (i + 2)), .int (xs (i + 3)), .ref u] w = _ := a1
  have t1 := rr (i + 1) (by omega)
  have t2 := rr (i + 2) (by omega)
  have t3 := rr (i + 3) (by omega)
  refine ⟨S', w3, g3, ?_, h3⟩
  simp only [r1, r2, r3, t1, t2, t3, a1, km, a2, bk267_977, bk267_984, bk267_990, bk267_996, bk267_1000, bk267_1009, bk267_1015, bk267_1021, bk267_1024, bk267_1437, bk267_1431, nI_add, Nat.reduceAdd, Option.bind_some, bct_v, bct_t, otl_s, otl_n, List.cons_append, List.nil_append, List.getElem?_cons_zero, List.getElem?_cons_succ, ↓reduceIte]

set_option maxHeartbeats 1000000 in
theorem lc_may (h : LI b L xs x m u S w g k s) {i : Nat} (hi : i + 4 < L) : ∃ (S' : sS) (w' : am_Wd) (g' : Nat → Nat), am_run 267 1029 [some (.ref b), some (.ref x), some (.ref m), some (.ref u), some (.int (nI i)), none, none, none] [] w = am_run 267 27 [some (.ref b), some (.ref x), some (.ref m), some (.ref u), some (.int (nI (i + 5))), none, none, none] [] w' ∧ LI b L xs x m u S' w' g' (k + 600) (s + 13200) := by
  have hb := h.2.2.2.2.2.1
  obtain ⟨kd, hr, cp, br, n, ws, mi, nd, dr, me, di, re⟩ := S
  have r1 := rd hb (i := i + 1) (by omega)
  have r2 := rd hb (i := i + 2) (by omega)
  obtain ⟨th, v, v', S', w2, w3, g3, hB, hv, a1, km, rr, a2, km3, ht, ho, h3⟩ := both (as := [.int (xs (i + 1)), .int (xs (i + 2))]) oZ_f (wr_may (xs (i + 1)) (xs (i + 2))) (fun ok => j_may ok (xs (i + 1)) (xs (i + 2))) h
  have a1 : am_x 192 [.ref x, .int (xs (i + 1)), .int (xs (i + 2)), .ref u] w = _ := a1
  have t1 := rr (i + 1) (by omega)
  have t2 := rr (i + 2) (by omega)
  refine ⟨S', w3, g3, ?_, h3⟩
  simp only [r1, r2, t1, t2, a1, km, a2, bk267_1029, bk267_1036, bk267_1042, bk267_1046, bk267_1055, bk267_1061, bk267_1064, bk267_1437, bk267_1431, nI_add, Nat.reduceAdd, Option.bind_some, bct_v, bct_t, otl_s, otl_n, List.cons_append, List.nil_append, List.getElem?_cons_zero, List.getElem?_cons_succ, ↓reduceIte]

set_option maxHeartbeats 1000000 in
theorem lc_where (h : LI b L xs x m u S w g k s) {i : Nat} (hi : i + 4 < L) : ∃ (S' : sS) (w' : am_Wd) (g' : Nat → Nat), am_run 267 1069 [some (.ref b), some (.ref x), some (.ref m), some (.ref u), some (.int (nI i)), none, none, none] [] w = am_run 267 27 [some (.ref b), some (.ref x), some (.ref m), some (.ref u), some (.int (nI (i + 5))), none, none, none] [] w' ∧ LI b L xs x m u S' w' g' (k + 600) (s + 13200) := by
  have hb := h.2.2.2.2.2.1
  obtain ⟨kd, hr, cp, br, n, ws, mi, nd, dr, me, di, re⟩ := S
  have r1 := rd hb (i := i + 1) (by omega)
  have r2 := rd hb (i := i + 2) (by omega)
  obtain ⟨th, v, v', S', w2, w3, g3, hB, hv, a1, km, rr, a2, km3, ht, ho, h3⟩ := both (as := [.int (xs (i + 1)), .int (xs (i + 2))]) oJ_f (wr_where (xs (i + 1)) (xs (i + 2))) (fun ok => j_where ok (xs (i + 1)) (xs (i + 2))) h
  have a1 : am_x 193 [.ref x, .int (xs (i + 1)), .int (xs (i + 2)), .ref u] w = _ := a1
  have t1 := rr (i + 1) (by omega)
  have t2 := rr (i + 2) (by omega)
  refine ⟨S', w3, g3, ?_, h3⟩
  have x266 : am_x 266 [.ref m] w3 = some (.inl (some (.int (nI th))), w3) := by
    simp only [bx266, bk266_0, ht, bk266_4, Option.bind_some, bct_v, bct_t, otl_s, otl_n, List.cons_append, List.nil_append, List.getElem?_cons_zero, List.getElem?_cons_succ, ↓reduceIte]
  by_cases z0 : th = 0
  · obtain rfl := hv z0
    obtain ⟨oa, od, os, hO⟩ := ho z0
    subst z0
    have gO : am_gf w3 u 9 0 = some (.long v') := gfc hO
    simp only [r1, r2, t1, t2, a1, km, a2, km3, x266, not_true_eq_false, gO, cmp_s, bk267_1069, bk267_1076, bk267_1082, bk267_1086, bk267_1095, bk267_1101, bk267_1104, bk267_1110, bk267_1117, bk267_1115, bk267_1134, bk267_1122, bk267_1126, bk267_1132, bk267_1437, bk267_1431, nI_add, Nat.reduceAdd, Option.bind_some, bct_v, bct_t, otl_s, otl_n, List.cons_append, List.nil_append, List.getElem?_cons_zero, List.getElem?_cons_succ, ↓reduceIte]
  · have z1 : (nI th = nI 0) = False := by rw [nI_eqS (by omega) (by decide)]; exact eq_false z0
    simp only [r1, r2, t1, t2, a1, km, a2, km3, x266, not_true_eq_false, z1, not_false_eq_true, bk267_1069, bk267_1076, bk267_1082, bk267_1086, bk267_1095, bk267_1101, bk267_1104, bk267_1110, bk267_1117, bk267_1115, bk267_1134, bk267_1122, bk267_1126, bk267_1132, bk267_1437, bk267_1431, nI_add, Nat.reduceAdd, Option.bind_some, bct_v, bct_t, otl_s, otl_n, List.cons_append, List.nil_append, List.getElem?_cons_zero, List.getElem?_cons_succ, ↓reduceIte]

set_option maxHeartbeats 1000000 in
theorem lc_way (h : LI b L xs x m u S w g k s) {i : Nat} (hi : i + 4 < L) : ∃ (S' : sS) (w' : am_Wd) (g' : Nat → Nat), am_run 267 1137 [some (.ref b), some (.ref x), some (.ref m), some (.ref u), some (.int (nI i)), none, none, none] [] w = am_run 267 27 [some (.ref b), some (.ref x), some (.ref m), some (.ref u), some (.int (nI (i + 5))), none, none, none] [] w' ∧ LI b L xs x m u S' w' g' (k + 600) (s + 13200) := by
  have hb := h.2.2.2.2.2.1
  obtain ⟨kd, hr, cp, br, n, ws, mi, nd, dr, me, di, re⟩ := S
  have r1 := rd hb (i := i + 1) (by omega)
  have r2 := rd hb (i := i + 2) (by omega)
  have r3 := rd hb (i := i + 3) (by omega)
  obtain ⟨th, v, v', S', w2, w3, g3, hB, hv, a1, km, rr, a2, km3, ht, ho, h3⟩ := both (as := [.int (xs (i + 1)), .int (xs (i + 2)), .int (xs (i + 3))]) oI_f (wr_way (xs (i + 1)) (xs (i + 2)) (xs (i + 3))) (fun ok => j_way ok (xs (i + 1)) (xs (i + 2)) (xs (i + 3))) h
  have a1 : am_x 194 [.ref x, .int (xs (i + 1)), .int (xs (i + 2)), .int (xs (i + 3)), .ref u] w = _ := a1
  have t1 := rr (i + 1) (by omega)
  have t2 := rr (i + 2) (by omega)
  have t3 := rr (i + 3) (by omega)
  refine ⟨S', w3, g3, ?_, h3⟩
  simp only [r1, r2, r3, t1, t2, t3, a1, km, a2, bk267_1137, bk267_1144, bk267_1150, bk267_1156, bk267_1160, bk267_1169, bk267_1175, bk267_1181, bk267_1184, bk267_1437, bk267_1431, nI_add, Nat.reduceAdd, Option.bind_some, bct_v, bct_t, otl_s, otl_n, List.cons_append, List.nil_append, List.getElem?_cons_zero, List.getElem?_cons_succ, ↓reduceIte]

set_option maxHeartbeats 1000000 in
theorem lc_safety (h : LI b L xs x m u S w g k s) {i : Nat} (hi : i + 4 < L) : ∃ (S' : sS) (w' : am_Wd) (g' : Nat → Nat), am_run 267 1189 [some (.ref b), some (.ref x), some (.ref m), some (.ref u), some (.int (nI i)), none, none, none] [] w = am_run 267 27 [some (.ref b), some (.ref x), some (.ref m), some (.ref u), some (.int (nI (i + 5))), none, none, none] [] w' ∧ LI b L xs x m u S' w' g' (k + 600) (s + 13200) := by
  have hb := h.2.2.2.2.2.1
  obtain ⟨kd, hr, cp, br, n, ws, mi, nd, dr, me, di, re⟩ := S
  have r1 := rd hb (i := i + 1) (by omega)
  have r2 := rd hb (i := i + 2) (by omega)
  obtain ⟨th, v, v', S', w2, w3, g3, hB, hv, a1, km, rr, a2, km3, ht, ho, h3⟩ := both (as := [.int (xs (i + 1)), .int (xs (i + 2))]) oI_f (wr_safety (xs (i + 1)) (xs (i + 2))) (fun ok => j_safety ok (xs (i + 1)) (xs (i + 2))) h
  have a1 : am_x 249 [.ref x, .int (xs (i + 1)), .int (xs (i + 2)), .ref u] w = _ := a1
  have t1 := rr (i + 1) (by omega)
  have t2 := rr (i + 2) (by omega)
  refine ⟨S', w3, g3, ?_, h3⟩
  simp only [r1, r2, t1, t2, a1, km, a2, bk267_1189, bk267_1196, bk267_1202, bk267_1206, bk267_1215, bk267_1221, bk267_1224, bk267_1437, bk267_1431, nI_add, Nat.reduceAdd, Option.bind_some, bct_v, bct_t, otl_s, otl_n, List.cons_append, List.nil_append, List.getElem?_cons_zero, List.getElem?_cons_succ, ↓reduceIte]

set_option maxHeartbeats 1000000 in
theorem lc_doubt (h : LI b L xs x m u S w g k s) {i : Nat} (hi : i + 4 < L) : ∃ (S' : sS) (w' : am_Wd) (g' : Nat → Nat), am_run 267 1229 [some (.ref b), some (.ref x), some (.ref m), some (.ref u), some (.int (nI i)), none, none, none] [] w = am_run 267 27 [some (.ref b), some (.ref x), some (.ref m), some (.ref u), some (.int (nI (i + 5))), none, none, none] [] w' ∧ LI b L xs x m u S' w' g' (k + 600) (s + 13200) := by
  have hb := h.2.2.2.2.2.1
  obtain ⟨kd, hr, cp, br, n, ws, mi, nd, dr, me, di, re⟩ := S
  have r1 := rd hb (i := i + 1) (by omega)
  obtain ⟨th, v, v', S', w2, w3, g3, hB, hv, a1, km, rr, a2, km3, ht, ho, h3⟩ := both (as := [.int (xs (i + 1))]) oD_f (wr_doubt (xs (i + 1))) (fun ok => j_doubt ok (xs (i + 1))) h
  have a1 : am_x 148 [.ref x, .int (xs (i + 1)), .ref u] w = _ := a1
  have t1 := rr (i + 1) (by omega)
  refine ⟨S', w3, g3, ?_, h3⟩
  simp only [r1, t1, a1, km, a2, bk267_1229, bk267_1236, bk267_1240, bk267_1249, bk267_1252, bk267_1437, bk267_1431, nI_add, Nat.reduceAdd, Option.bind_some, bct_v, bct_t, otl_s, otl_n, List.cons_append, List.nil_append, List.getElem?_cons_zero, List.getElem?_cons_succ, ↓reduceIte]

set_option maxHeartbeats 1000000 in
theorem lc_worst (h : LI b L xs x m u S w g k s) {i : Nat} (hi : i + 4 < L) : ∃ (S' : sS) (w' : am_Wd) (g' : Nat → Nat), am_run 267 1257 [some (.ref b), some (.ref x), some (.ref m), some (.ref u), some (.int (nI i)), none, none, none] [] w = am_run 267 27 [some (.ref b), some (.ref x), some (.ref m), some (.ref u), some (.int (nI (i + 5))), none, none, none] [] w' ∧ LI b L xs x m u S' w' g' (k + 600) (s + 13200) := by
  have hb := h.2.2.2.2.2.1
  obtain ⟨kd, hr, cp, br, n, ws, mi, nd, dr, me, di, re⟩ := S
  have r1 := rd hb (i := i + 1) (by omega)
  have r2 := rd hb (i := i + 2) (by omega)
  obtain ⟨th, v, v', S', w2, w3, g3, hB, hv, a1, km, rr, a2, km3, ht, ho, h3⟩ := both (as := [.int (xs (i + 1)), .int (xs (i + 2))]) oI_f (wr_worst (xs (i + 1)) (xs (i + 2))) (fun ok => j_worst ok (xs (i + 1)) (xs (i + 2))) h
  have a1 : am_x 235 [.ref x, .int (xs (i + 1)), .int (xs (i + 2)), .ref u] w = _ := a1
  have t1 := rr (i + 1) (by omega)
  have t2 := rr (i + 2) (by omega)
  refine ⟨S', w3, g3, ?_, h3⟩
  simp only [r1, r2, t1, t2, a1, km, a2, bk267_1257, bk267_1264, bk267_1270, bk267_1274, bk267_1283, bk267_1289, bk267_1292, bk267_1437, bk267_1431, nI_add, Nat.reduceAdd, Option.bind_some, bct_v, bct_t, otl_s, otl_n, List.cons_append, List.nil_append, List.getElem?_cons_zero, List.getElem?_cons_succ, ↓reduceIte]

set_option maxHeartbeats 1000000 in
theorem lc_best (h : LI b L xs x m u S w g k s) {i : Nat} (hi : i + 4 < L) : ∃ (S' : sS) (w' : am_Wd) (g' : Nat → Nat), am_run 267 1297 [some (.ref b), some (.ref x), some (.ref m), some (.ref u), some (.int (nI i)), none, none, none] [] w = am_run 267 27 [some (.ref b), some (.ref x), some (.ref m), some (.ref u), some (.int (nI (i + 5))), none, none, none] [] w' ∧ LI b L xs x m u S' w' g' (k + 600) (s + 13200) := by
  have hb := h.2.2.2.2.2.1
  obtain ⟨kd, hr, cp, br, n, ws, mi, nd, dr, me, di, re⟩ := S
  have r1 := rd hb (i := i + 1) (by omega)
  obtain ⟨th, v, v', S', w2, w3, g3, hB, hv, a1, km, rr, a2, km3, ht, ho, h3⟩ := both (as := [.int (xs (i + 1))]) oI_f (wr_best (xs (i + 1))) (fun ok => j_best ok (xs (i + 1))) h
  have a1 : am_x 236 [.ref x, .int (xs (i + 1)), .ref u] w = _ := a1
  have t1 := rr (i + 1) (by omega)
  refine ⟨S', w3, g3, ?_, h3⟩
  simp only [r1, t1, a1, km, a2, bk267_1297, bk267_1304, bk267_1308, bk267_1317, bk267_1320, bk267_1437, bk267_1431, nI_add, Nat.reduceAdd, Option.bind_some, bct_v, bct_t, otl_s, otl_n, List.cons_append, List.nil_append, List.getElem?_cons_zero, List.getElem?_cons_succ, ↓reduceIte]

set_option maxHeartbeats 1000000 in
theorem lc_wouldFeel (h : LI b L xs x m u S w g k s) {i : Nat} (hi : i + 4 < L) : ∃ (S' : sS) (w' : am_Wd) (g' : Nat → Nat), am_run 267 1325 [some (.ref b), some (.ref x), some (.ref m), some (.ref u), some (.int (nI i)), none, none, none] [] w = am_run 267 27 [some (.ref b), some (.ref x), some (.ref m), some (.ref u), some (.int (nI (i + 5))), none, none, none] [] w' ∧ LI b L xs x m u S' w' g' (k + 600) (s + 13200) := by
  have hb := h.2.2.2.2.2.1
  obtain ⟨kd, hr, cp, br, n, ws, mi, nd, dr, me, di, re⟩ := S
  have r1 := rd hb (i := i + 1) (by omega)
  have r2 := rd hb (i := i + 2) (by omega)
  obtain ⟨th, v, v', S', w2, w3, g3, hB, hv, a1, km, rr, a2, km3, ht, ho, h3⟩ := both (as := [.int (xs (i + 1)), .int (xs (i + 2))]) oI_f (wr_wouldFeel (xs (i + 1)) (xs (i + 2))) (fun ok => j_wouldFeel ok (xs (i + 1)) (xs (i + 2))) h
  have a1 : am_x 220 [.ref x, .int (xs (i + 1)), .int (xs (i + 2)), .ref u] w = _ := a1
  have t1 := rr (i + 1) (by omega)
  have t2 := rr (i + 2) (by omega)
  refine ⟨S', w3, g3, ?_, h3⟩
  simp only [r1, r2, t1, t2, a1, km, a2, bk267_1325, bk267_1332, bk267_1338, bk267_1342, bk267_1351, bk267_1357, bk267_1360, bk267_1437, bk267_1431, nI_add, Nat.reduceAdd, Option.bind_some, bct_v, bct_t, otl_s, otl_n, List.cons_append, List.nil_append, List.getElem?_cons_zero, List.getElem?_cons_succ, ↓reduceIte]

set_option maxHeartbeats 1000000 in
theorem lc_wouldBe (h : LI b L xs x m u S w g k s) {i : Nat} (hi : i + 4 < L) : ∃ (S' : sS) (w' : am_Wd) (g' : Nat → Nat), am_run 267 1365 [some (.ref b), some (.ref x), some (.ref m), some (.ref u), some (.int (nI i)), none, none, none] [] w = am_run 267 27 [some (.ref b), some (.ref x), some (.ref m), some (.ref u), some (.int (nI (i + 5))), none, none, none] [] w' ∧ LI b L xs x m u S' w' g' (k + 600) (s + 13200) := by
  have hb := h.2.2.2.2.2.1
  obtain ⟨kd, hr, cp, br, n, ws, mi, nd, dr, me, di, re⟩ := S
  have r1 := rd hb (i := i + 1) (by omega)
  have r2 := rd hb (i := i + 2) (by omega)
  obtain ⟨th, v, v', S', w2, w3, g3, hB, hv, a1, km, rr, a2, km3, ht, ho, h3⟩ := both (as := [.int (xs (i + 1)), .int (xs (i + 2))]) oI_f (wr_wouldBe (xs (i + 1)) (xs (i + 2))) (fun ok => j_wouldBe ok (xs (i + 1)) (xs (i + 2))) h
  have a1 : am_x 237 [.ref x, .int (xs (i + 1)), .int (xs (i + 2)), .ref u] w = _ := a1
  have t1 := rr (i + 1) (by omega)
  have t2 := rr (i + 2) (by omega)
  refine ⟨S', w3, g3, ?_, h3⟩
  simp only [r1, r2, t1, t2, a1, km, a2, bk267_1365, bk267_1372, bk267_1378, bk267_1382, bk267_1391, bk267_1397, bk267_1400, bk267_1437, bk267_1431, nI_add, Nat.reduceAdd, Option.bind_some, bct_v, bct_t, otl_s, otl_n, List.cons_append, List.nil_append, List.getElem?_cons_zero, List.getElem?_cons_succ, ↓reduceIte]

set_option maxHeartbeats 1000000 in
theorem lc_isSound (h : LI b L xs x m u S w g k s) {i : Nat} (hi : i + 4 < L) : ∃ (S' : sS) (w' : am_Wd) (g' : Nat → Nat), am_run 267 1405 [some (.ref b), some (.ref x), some (.ref m), some (.ref u), some (.int (nI i)), none, none, none] [] w = am_run 267 27 [some (.ref b), some (.ref x), some (.ref m), some (.ref u), some (.int (nI (i + 5))), none, none, none] [] w' ∧ LI b L xs x m u S' w' g' (k + 600) (s + 13200) := by
  have hb := h.2.2.2.2.2.1
  obtain ⟨kd, hr, cp, br, n, ws, mi, nd, dr, me, di, re⟩ := S
  obtain ⟨v, S', w2, w3, g3, kx, a1, km, a2, h3⟩ := both0 (fun ok => j_isSound ok) h
  refine ⟨S', w3, g3, ?_, h3⟩
  simp only [kx, a1, km, a2, cmp_s, bk267_1405, bk267_1409, bk267_1414, bk267_1437, bk267_1431, nI_add, Nat.reduceAdd, Option.bind_some, bct_v, bct_t, otl_s, otl_n, List.cons_append, List.nil_append, List.getElem?_cons_zero, List.getElem?_cons_succ, ↓reduceIte]

set_option maxHeartbeats 1000000 in
theorem lc_digest (h : LI b L xs x m u S w g k s) {i : Nat} (hi : i + 4 < L) : ∃ (S' : sS) (w' : am_Wd) (g' : Nat → Nat), am_run 267 1418 [some (.ref b), some (.ref x), some (.ref m), some (.ref u), some (.int (nI i)), none, none, none] [] w = am_run 267 27 [some (.ref b), some (.ref x), some (.ref m), some (.ref u), some (.int (nI (i + 5))), none, none, none] [] w' ∧ LI b L xs x m u S' w' g' (k + 600) (s + 13200) := by
  have hb := h.2.2.2.2.2.1
  obtain ⟨kd, hr, cp, br, n, ws, mi, nd, dr, me, di, re⟩ := S
  obtain ⟨v, S', w2, w3, g3, kx, a1, km, a2, h3⟩ := both0 (fun ok => j_digest ok) h
  refine ⟨S', w3, g3, ?_, h3⟩
  simp only [kx, a1, km, a2, cmp_s, bk267_1418, bk267_1422, bk267_1427, bk267_1437, bk267_1431, nI_add, Nat.reduceAdd, Option.bind_some, bct_v, bct_t, otl_s, otl_n, List.cons_append, List.nil_append, List.getElem?_cons_zero, List.getElem?_cons_succ, ↓reduceIte]

end LC
