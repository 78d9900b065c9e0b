section
/-! THE LAW, case by case. Laid by wip/gen/lawc.py. Mine. -/
theorem cmp_s (v : Int64) : lg_cmp v v = nI 0 := by
  unfold lg_cmp
  simp [Int64.lt_irrefl]
  try rfl
section LC
variable {w : am_Wd} {g : Nat → Nat} {x m u b L : Nat} {xs : Nat → Int32} {S : sS} {k s : Nat}

set_option maxHeartbeats 1000000 in
theorem lc_edge (h : LI b L xs x m u S w g k s) {i : Nat} (hi : i + 4 < L) : ∃ (S' : sS) (w' : am_Wd) (g' : Nat → Nat), am_run 266 172 [some (.ref b), some (.ref x), some (.ref m), some (.ref u), some (.int (nI i)), none, none, none] [] w = am_run 266 27 [some (.ref b), some (.ref x), some (.ref m), some (.ref u), some (.int (nI (i + 5))), none, none, none] [] w' ∧ LI b L xs x m u S' w' g' (k + 600) (s + 13200) := by
  have hb := h.2.2.2.2.2.1
  obtain ⟨kd, hr, cp, br, n, ws, mi, nd, dr, me, di, re⟩ := S
  have r1 := rd hb (i := i + 1) (by omega)
  have r2 := rd hb (i := i + 2) (by omega)
  have r3 := rd hb (i := i + 3) (by omega)
  have r4 := rd hb (i := i + 4) (by omega)
  obtain ⟨th, v, v', S', w2, w3, g3, hB, hv, a1, km, rr, a2, km3, ht, ho, h3⟩ := both (as := [.int (xs (i + 1)), .int (xs (i + 2)), .int (xs (i + 3)), .int (xs (i + 4))]) oI_f (wr_edge (xs (i + 1)) (xs (i + 2)) (xs (i + 3)) (xs (i + 4))) (fun ok => j_edge ok (xs (i + 1)) (xs (i + 2)) (xs (i + 3)) (xs (i + 4))) h
  have a1 : am_x 216 [.ref x, .int (xs (i + 1)), .int (xs (i + 2)), .int (xs (i + 3)), .int (xs (i + 4)), .ref u] w = _ := a1
  have t1 := rr (i + 1) (by omega)
  have t2 := rr (i + 2) (by omega)
  have t3 := rr (i + 3) (by omega)
  have t4 := rr (i + 4) (by omega)
  refine ⟨S', w3, g3, ?_, h3⟩
  simp only [r1, r2, r3, r4, t1, t2, t3, t4, a1, km, a2, bk266_172, bk266_179, bk266_185, bk266_191, bk266_197, bk266_201, bk266_210, bk266_216, bk266_222, bk266_228, bk266_231, bk266_1410, bk266_1404, nI_add, Nat.reduceAdd, Option.bind_some, bct_v, bct_t, otl_s, otl_n, List.cons_append, List.nil_append, List.getElem?_cons_zero, List.getElem?_cons_succ, ↓reduceIte]

set_option maxHeartbeats 1000000 in
theorem lc_lay (h : LI b L xs x m u S w g k s) {i : Nat} (hi : i + 4 < L) : ∃ (S' : sS) (w' : am_Wd) (g' : Nat → Nat), am_run 266 236 [some (.ref b), some (.ref x), some (.ref m), some (.ref u), some (.int (nI i)), none, none, none] [] w = am_run 266 27 [some (.ref b), some (.ref x), some (.ref m), some (.ref u), some (.int (nI (i + 5))), none, none, none] [] w' ∧ LI b L xs x m u S' w' g' (k + 600) (s + 13200) := by
  have hb := h.2.2.2.2.2.1
  obtain ⟨kd, hr, cp, br, n, ws, mi, nd, dr, me, di, re⟩ := S
  have r1 := rd hb (i := i + 1) (by omega)
  obtain ⟨th, v, v', S', w2, w3, g3, hB, hv, a1, km, rr, a2, km3, ht, ho, h3⟩ := both (as := [.int (xs (i + 1))]) oI_f (wr_lay (xs (i + 1))) (fun ok => j_lay ok (xs (i + 1))) h
  have a1 : am_x 233 [.ref x, .int (xs (i + 1)), .ref u] w = _ := a1
  have t1 := rr (i + 1) (by omega)
  refine ⟨S', w3, g3, ?_, h3⟩
  simp only [r1, t1, a1, km, a2, bk266_236, bk266_243, bk266_247, bk266_256, bk266_259, bk266_1410, bk266_1404, nI_add, Nat.reduceAdd, Option.bind_some, bct_v, bct_t, otl_s, otl_n, List.cons_append, List.nil_append, List.getElem?_cons_zero, List.getElem?_cons_succ, ↓reduceIte]

set_option maxHeartbeats 1000000 in
theorem lc_cell (h : LI b L xs x m u S w g k s) {i : Nat} (hi : i + 4 < L) : ∃ (S' : sS) (w' : am_Wd) (g' : Nat → Nat), am_run 266 264 [some (.ref b), some (.ref x), some (.ref m), some (.ref u), some (.int (nI i)), none, none, none] [] w = am_run 266 27 [some (.ref b), some (.ref x), some (.ref m), some (.ref u), some (.int (nI (i + 5))), none, none, none] [] w' ∧ LI b L xs x m u S' w' g' (k + 600) (s + 13200) := by
  have hb := h.2.2.2.2.2.1
  obtain ⟨kd, hr, cp, br, n, ws, mi, nd, dr, me, di, re⟩ := S
  have r1 := rd hb (i := i + 1) (by omega)
  have r2 := rd hb (i := i + 2) (by omega)
  have r3 := rd hb (i := i + 3) (by omega)
  by_cases e2 : xs (i + 2) = nI 0
  · by_cases e3 : xs (i + 3) = nI 0
    · obtain ⟨th, v, v', S', w2, w3, g3, hB, hv, a1, km, rr, a2, km3, ht, ho, h3⟩ := both (as := [.int (xs (i + 1)), .int (nI 0), .int (nI 0)]) oI_f (wr_cell (xs (i + 1)) (nI 0) (nI 0)) (fun ok => j_cell ok (xs (i + 1)) false false) h
      have a1 : am_x 147 [.ref x, .int (xs (i + 1)), .int (nI 0), .int (nI 0), .ref u] w = _ := a1
      have t1 := rr (i + 1) (by omega)
      have t2 := rr (i + 2) (by omega)
      have t3 := rr (i + 3) (by omega)
      refine ⟨S', w3, g3, ?_, h3⟩
      simp only [r1, r2, r3, t1, t2, t3, a1, km, a2, e2, e3, bk266_264, bk266_271, bk266_277, bk266_284, bk266_280, bk266_285, bk266_291, bk266_298, bk266_294, bk266_299, bk266_303, bk266_312, bk266_318, bk266_325, bk266_321, bk266_326, bk266_332, bk266_339, bk266_335, bk266_340, bk266_343, bk266_1410, bk266_1404, nI_add, Nat.reduceAdd, Option.bind_some, bct_v, bct_t, otl_s, otl_n, List.cons_append, List.nil_append, List.getElem?_cons_zero, List.getElem?_cons_succ, ↓reduceIte]
    · obtain ⟨th, v, v', S', w2, w3, g3, hB, hv, a1, km, rr, a2, km3, ht, ho, h3⟩ := both (as := [.int (xs (i + 1)), .int (nI 0), .int (nI 1)]) oI_f (wr_cell (xs (i + 1)) (nI 0) (nI 1)) (fun ok => j_cell ok (xs (i + 1)) false true) h
      have a1 : am_x 147 [.ref x, .int (xs (i + 1)), .int (nI 0), .int (nI 1), .ref u] w = _ := a1
      have t1 := rr (i + 1) (by omega)
      have t2 := rr (i + 2) (by omega)
      have t3 := rr (i + 3) (by omega)
      refine ⟨S', w3, g3, ?_, h3⟩
      simp only [r1, r2, r3, t1, t2, t3, a1, km, a2, e2, e3, bk266_264, bk266_271, bk266_277, bk266_284, bk266_280, bk266_285, bk266_291, bk266_298, bk266_294, bk266_299, bk266_303, bk266_312, bk266_318, bk266_325, bk266_321, bk266_326, bk266_332, bk266_339, bk266_335, bk266_340, bk266_343, bk266_1410, bk266_1404, nI_add, Nat.reduceAdd, Option.bind_some, bct_v, bct_t, otl_s, otl_n, List.cons_append, List.nil_append, List.getElem?_cons_zero, List.getElem?_cons_succ, ↓reduceIte]
  · by_cases e3 : xs (i + 3) = nI 0
    · obtain ⟨th, v, v', S', w2, w3, g3, hB, hv, a1, km, rr, a2, km3, ht, ho, h3⟩ := both (as := [.int (xs (i + 1)), .int (nI 1), .int (nI 0)]) oI_f (wr_cell (xs (i + 1)) (nI 1) (nI 0)) (fun ok => j_cell ok (xs (i + 1)) true false) h
      have a1 : am_x 147 [.ref x, .int (xs (i + 1)), .int (nI 1), .int (nI 0), .ref u] w = _ := a1
      have t1 := rr (i + 1) (by omega)
      have t2 := rr (i + 2) (by omega)
      have t3 := rr (i + 3) (by omega)
      refine ⟨S', w3, g3, ?_, h3⟩
      simp only [r1, r2, r3, t1, t2, t3, a1, km, a2, e2, e3, bk266_264, bk266_271, bk266_277, bk266_284, bk266_280, bk266_285, bk266_291, bk266_298, bk266_294, bk266_299, bk266_303, bk266_312, bk266_318, bk266_325, bk266_321, bk266_326, bk266_332, bk266_339, bk266_335, bk266_340, bk266_343, bk266_1410, bk266_1404, nI_add, Nat.reduceAdd, Option.bind_some, bct_v, bct_t, otl_s, otl_n, List.cons_append, List.nil_append, List.getElem?_cons_zero, List.getElem?_cons_succ, ↓reduceIte]
    · obtain ⟨th, v, v', S', w2, w3, g3, hB, hv, a1, km, rr, a2, km3, ht, ho, h3⟩ := both (as := [.int (xs (i + 1)), .int (nI 1), .int (nI 1)]) oI_f (wr_cell (xs (i + 1)) (nI 1) (nI 1)) (fun ok => j_cell ok (xs (i + 1)) true true) h
      have a1 : am_x 147 [.ref x, .int (xs (i + 1)), .int (nI 1), .int (nI 1), .ref u] w = _ := a1
      have t1 := rr (i + 1) (by omega)
      have t2 := rr (i + 2) (by omega)
      have t3 := rr (i + 3) (by omega)
      refine ⟨S', w3, g3, ?_, h3⟩
      simp only [r1, r2, r3, t1, t2, t3, a1, km, a2, e2, e3, bk266_264, bk266_271, bk266_277, bk266_284, bk266_280, bk266_285, bk266_291, bk266_298, bk266_294, bk266_299, bk266_303, bk266_312, bk266_318, bk266_325, bk266_321, bk266_326, bk266_332, bk266_339, bk266_335, bk266_340, bk266_343, bk266_1410, bk266_1404, nI_add, Nat.reduceAdd, Option.bind_some, bct_v, bct_t, otl_s, otl_n, List.cons_append, List.nil_append, List.getElem?_cons_zero, List.getElem?_cons_succ, ↓reduceIte]

set_option maxHeartbeats 1000000 in
theorem lc_walker (h : LI b L xs x m u S w g k s) {i : Nat} (hi : i + 4 < L) : ∃ (S' : sS) (w' : am_Wd) (g' : Nat → Nat), am_run 266 348 [some (.ref b), some (.ref x), some (.ref m), some (.ref u), some (.int (nI i)), none, none, none] [] w = am_run 266 27 [some (.ref b), some (.ref x), some (.ref m), some (.ref u), some (.int (nI (i + 5))), none, none, none] [] w' ∧ LI b L xs x m u S' w' g' (k + 600) (s + 13200) := by
  have hb := h.2.2.2.2.2.1
  obtain ⟨kd, hr, cp, br, n, ws, mi, nd, dr, me, di, re⟩ := S
  have r1 := rd hb (i := i + 1) (by omega)
  have r2 := rd hb (i := i + 2) (by omega)
  have r3 := rd hb (i := i + 3) (by omega)
  have r4 := rd hb (i := i + 4) (by omega)
  by_cases e4 : xs (i + 4) = nI 0
  · obtain ⟨th, v, v', S', w2, w3, g3, hB, hv, a1, km, rr, a2, km3, ht, ho, h3⟩ := both (as := [.int (xs (i + 1)), .int (xs (i + 2)), .int (xs (i + 3)), .int (nI 0)]) oI_f (wr_walker (xs (i + 1)) (xs (i + 2)) (xs (i + 3)) (nI 0)) (fun ok => j_walker ok (xs (i + 1)) (xs (i + 2)) (xs (i + 3)) false) h
    have a1 : am_x 217 [.ref x, .int (xs (i + 1)), .int (xs (i + 2)), .int (xs (i + 3)), .int (nI 0), .ref u] w = _ := a1
    have t1 := rr (i + 1) (by omega)
    have t2 := rr (i + 2) (by omega)
    have t3 := rr (i + 3) (by omega)
    have t4 := rr (i + 4) (by omega)
    refine ⟨S', w3, g3, ?_, h3⟩
    simp only [r1, r2, r3, r4, t1, t2, t3, t4, a1, km, a2, e4, bk266_348, bk266_355, bk266_361, bk266_367, bk266_373, bk266_380, bk266_376, bk266_381, bk266_385, bk266_394, bk266_400, bk266_406, bk266_412, bk266_419, bk266_415, bk266_420, bk266_423, bk266_1410, bk266_1404, nI_add, Nat.reduceAdd, Option.bind_some, bct_v, bct_t, otl_s, otl_n, List.cons_append, List.nil_append, List.getElem?_cons_zero, List.getElem?_cons_succ, ↓reduceIte]
  · obtain ⟨th, v, v', S', w2, w3, g3, hB, hv, a1, km, rr, a2, km3, ht, ho, h3⟩ := both (as := [.int (xs (i + 1)), .int (xs (i + 2)), .int (xs (i + 3)), .int (nI 1)]) oI_f (wr_walker (xs (i + 1)) (xs (i + 2)) (xs (i + 3)) (nI 1)) (fun ok => j_walker ok (xs (i + 1)) (xs (i + 2)) (xs (i + 3)) true) h
    have a1 : am_x 217 [.ref x, .int (xs (i + 1)), .int (xs (i + 2)), .int (xs (i + 3)), .int (nI 1), .ref u] w = _ := a1
    have t1 := rr (i + 1) (by omega)
    have t2 := rr (i + 2) (by omega)
    have t3 := rr (i + 3) (by omega)
    have t4 := rr (i + 4) (by omega)
    refine ⟨S', w3, g3, ?_, h3⟩
    simp only [r1, r2, r3, r4, t1, t2, t3, t4, a1, km, a2, e4, bk266_348, bk266_355, bk266_361, bk266_367, bk266_373, bk266_380, bk266_376, bk266_381, bk266_385, bk266_394, bk266_400, bk266_406, bk266_412, bk266_419, bk266_415, bk266_420, bk266_423, bk266_1410, bk266_1404, nI_add, Nat.reduceAdd, Option.bind_some, bct_v, bct_t, otl_s, otl_n, List.cons_append, List.nil_append, List.getElem?_cons_zero, List.getElem?_cons_succ, ↓reduceIte]

set_option maxHeartbeats 1000000 in
theorem lc_forward (h : LI b L xs x m u S w g k s) {i : Nat} (hi : i + 4 < L) : ∃ (S' : sS) (w' : am_Wd) (g' : Nat → Nat), am_run 266 428 [some (.ref b), some (.ref x), some (.ref m), some (.ref u), some (.int (nI i)), none, none, none] [] w = am_run 266 27 [some (.ref b), some (.ref x), some (.ref m), some (.ref u), some (.int (nI (i + 5))), none, none, none] [] w' ∧ LI b L xs x m u S' w' g' (k + 600) (s + 13200) := by
  have hb := h.2.2.2.2.2.1
  obtain ⟨kd, hr, cp, br, n, ws, mi, nd, dr, me, di, re⟩ := S
  have r1 := rd hb (i := i + 1) (by omega)
  have r2 := rd hb (i := i + 2) (by omega)
  by_cases e2 : xs (i + 2) = nI 0
  · obtain ⟨th, v, v', S', w2, w3, g3, hB, hv, a1, km, rr, a2, km3, ht, ho, h3⟩ := both (as := [.int (xs (i + 1)), .int (nI 0)]) oZ_f (wr_forward (xs (i + 1)) (nI 0)) (fun ok => j_forward ok (xs (i + 1)) false) h
    have a1 : am_x 253 [.ref x, .int (xs (i + 1)), .int (nI 0), .ref u] w = _ := a1
    have t1 := rr (i + 1) (by omega)
    have t2 := rr (i + 2) (by omega)
    refine ⟨S', w3, g3, ?_, h3⟩
    simp only [r1, r2, t1, t2, a1, km, a2, e2, bk266_428, bk266_435, bk266_441, bk266_448, bk266_444, bk266_449, bk266_453, bk266_462, bk266_468, bk266_475, bk266_471, bk266_476, bk266_479, bk266_1410, bk266_1404, nI_add, Nat.reduceAdd, Option.bind_some, bct_v, bct_t, otl_s, otl_n, List.cons_append, List.nil_append, List.getElem?_cons_zero, List.getElem?_cons_succ, ↓reduceIte]
  · obtain ⟨th, v, v', S', w2, w3, g3, hB, hv, a1, km, rr, a2, km3, ht, ho, h3⟩ := both (as := [.int (xs (i + 1)), .int (nI 1)]) oZ_f (wr_forward (xs (i + 1)) (nI 1)) (fun ok => j_forward ok (xs (i + 1)) true) h
    have a1 : am_x 253 [.ref x, .int (xs (i + 1)), .int (nI 1), .ref u] w = _ := a1
    have t1 := rr (i + 1) (by omega)
    have t2 := rr (i + 2) (by omega)
    refine ⟨S', w3, g3, ?_, h3⟩
    simp only [r1, r2, t1, t2, a1, km, a2, e2, bk266_428, bk266_435, bk266_441, bk266_448, bk266_444, bk266_449, bk266_453, bk266_462, bk266_468, bk266_475, bk266_471, bk266_476, bk266_479, bk266_1410, bk266_1404, nI_add, Nat.reduceAdd, Option.bind_some, bct_v, bct_t, otl_s, otl_n, List.cons_append, List.nil_append, List.getElem?_cons_zero, List.getElem?_cons_succ, ↓reduceIte]

set_option maxHeartbeats 1000000 in
theorem lc_turn (h : LI b L xs x m u S w g k s) {i : Nat} (hi : i + 4 < L) : ∃ (S' : sS) (w' : am_Wd) (g' : Nat → Nat), am_run 266 484 [some (.ref b), some (.ref x), some (.ref m), some (.ref u), some (.int (nI i)), none, none, none] [] w = am_run 266 27 [some (.ref b), some (.ref x), some (.ref m), some (.ref u), some (.int (nI (i + 5))), none, none, none] [] w' ∧ LI b L xs x m u S' w' g' (k + 600) (s + 13200) := by
  have hb := h.2.2.2.2.2.1
  obtain ⟨kd, hr, cp, br, n, ws, mi, nd, dr, me, di, re⟩ := S
  have r1 := rd hb (i := i + 1) (by omega)
  have r2 := rd hb (i := i + 2) (by omega)
  have r3 := rd hb (i := i + 3) (by omega)
  by_cases e2 : xs (i + 2) = nI 0
  · by_cases e3 : xs (i + 3) = nI 0
    · obtain ⟨th, v, v', S', w2, w3, g3, hB, hv, a1, km, rr, a2, km3, ht, ho, h3⟩ := both (as := [.int (xs (i + 1)), .int (nI 0), .int (nI 0)]) oI_f (wr_turn (xs (i + 1)) (nI 0) (nI 0)) (fun ok => j_turn ok (xs (i + 1)) false false) h
      have a1 : am_x 254 [.ref x, .int (xs (i + 1)), .int (nI 0), .int (nI 0), .ref u] w = _ := a1
      have t1 := rr (i + 1) (by omega)
      have t2 := rr (i + 2) (by omega)
      have t3 := rr (i + 3) (by omega)
      refine ⟨S', w3, g3, ?_, h3⟩
      simp only [r1, r2, r3, t1, t2, t3, a1, km, a2, e2, e3, bk266_484, bk266_491, bk266_497, bk266_504, bk266_500, bk266_505, bk266_511, bk266_518, bk266_514, bk266_519, bk266_523, bk266_532, bk266_538, bk266_545, bk266_541, bk266_546, bk266_552, bk266_559, bk266_555, bk266_560, bk266_563, bk266_1410, bk266_1404, nI_add, Nat.reduceAdd, Option.bind_some, bct_v, bct_t, otl_s, otl_n, List.cons_append, List.nil_append, List.getElem?_cons_zero, List.getElem?_cons_succ, ↓reduceIte]
    · obtain ⟨th, v, v', S', w2, w3, g3, hB, hv, a1, km, rr, a2, km3, ht, ho, h3⟩ := both (as := [.int (xs (i + 1)), .int (nI 0), .int (nI 1)]) oI_f (wr_turn (xs (i + 1)) (nI 0) (nI 1)) (fun ok => j_turn ok (xs (i + 1)) false true) h
      have a1 : am_x 254 [.ref x, .int (xs (i + 1)), .int (nI 0), .int (nI 1), .ref u] w = _ := a1
      have t1 := rr (i + 1) (by omega)
      have t2 := rr (i + 2) (by omega)
      have t3 := rr (i + 3) (by omega)
      refine ⟨S', w3, g3, ?_, h3⟩
      simp only [r1, r2, r3, t1, t2, t3, a1, km, a2, e2, e3, bk266_484, bk266_491, bk266_497, bk266_504, bk266_500, bk266_505, bk266_511, bk266_518, bk266_514, bk266_519, bk266_523, bk266_532, bk266_538, bk266_545, bk266_541, bk266_546, bk266_552, bk266_559, bk266_555, bk266_560, bk266_563, bk266_1410, bk266_1404, nI_add, Nat.reduceAdd, Option.bind_some, bct_v, bct_t, otl_s, otl_n, List.cons_append, List.nil_append, List.getElem?_cons_zero, List.getElem?_cons_succ, ↓reduceIte]
  · by_cases e3 : xs (i + 3) = nI 0
    · obtain ⟨th, v, v', S', w2, w3, g3, hB, hv, a1, km, rr, a2, km3, ht, ho, h3⟩ := both (as := [.int (xs (i + 1)), .int (nI 1), .int (nI 0)]) oI_f (wr_turn (xs (i + 1)) (nI 1) (nI 0)) (fun ok => j_turn ok (xs (i + 1)) true false) h
      have a1 : am_x 254 [.ref x, .int (xs (i + 1)), .int (nI 1), .int (nI 0), .ref u] w = _ := a1
      have t1 := rr (i + 1) (by omega)
      have t2 := rr (i + 2) (by omega)
      have t3 := rr (i + 3) (by omega)
      refine ⟨S', w3, g3, ?_, h3⟩
      simp only [r1, r2, r3, t1, t2, t3, a1, km, a2, e2, e3, bk266_484, bk266_491, bk266_497, bk266_504, bk266_500, bk266_505, bk266_511, bk266_518, bk266_514, bk266_519, bk266_523, bk266_532, bk266_538, bk266_545, bk266_541, bk266_546, bk266_552, bk266_559, bk266_555, bk266_560, bk266_563, bk266_1410, bk266_1404, nI_add, Nat.reduceAdd, Option.bind_some, bct_v, bct_t, otl_s, otl_n, List.cons_append, List.nil_append, List.getElem?_cons_zero, List.getElem?_cons_succ, ↓reduceIte]
    · obtain ⟨th, v, v', S', w2, w3, g3, hB, hv, a1, km, rr, a2, km3, ht, ho, h3⟩ := both (as := [.int (xs (i + 1)), .int (nI 1), .int (nI 1)]) oI_f (wr_turn (xs (i + 1)) (nI 1) (nI 1)) (fun ok => j_turn ok (xs (i + 1)) true true) h
      have a1 : am_x 254 [.ref x, .int (xs (i + 1)), .int (nI 1), .int (nI 1), .ref u] w = _ := a1
      have t1 := rr (i + 1) (by omega)
      have t2 := rr (i + 2) (by omega)
      have t3 := rr (i + 3) (by omega)
      refine ⟨S', w3, g3, ?_, h3⟩
      simp only [r1, r2, r3, t1, t2, t3, a1, km, a2, e2, e3, bk266_484, bk266_491, bk266_497, bk266_504, bk266_500, bk266_505, bk266_511, bk266_518, bk266_514, bk266_519, bk266_523, bk266_532, bk266_538, bk266_545, bk266_541, bk266_546, bk266_552, bk266_559, bk266_555, bk266_560, bk266_563, bk266_1410, bk266_1404, nI_add, Nat.reduceAdd, Option.bind_some, bct_v, bct_t, otl_s, otl_n, List.cons_append, List.nil_append, List.getElem?_cons_zero, List.getElem?_cons_succ, ↓reduceIte]

set_option maxHeartbeats 1000000 in
theorem lc_feel (h : LI b L xs x m u S w g k s) {i : Nat} (hi : i + 4 < L) : ∃ (S' : sS) (w' : am_Wd) (g' : Nat → Nat), am_run 266 568 [some (.ref b), some (.ref x), some (.ref m), some (.ref u), some (.int (nI i)), none, none, none] [] w = am_run 266 27 [some (.ref b), some (.ref x), some (.ref m), some (.ref u), some (.int (nI (i + 5))), none, none, none] [] w' ∧ LI b L xs x m u S' w' g' (k + 600) (s + 13200) := by
  have hb := h.2.2.2.2.2.1
  obtain ⟨kd, hr, cp, br, n, ws, mi, nd, dr, me, di, re⟩ := S
  have r1 := rd hb (i := i + 1) (by omega)
  have r2 := rd hb (i := i + 2) (by omega)
  by_cases e2 : xs (i + 2) = nI 0
  · obtain ⟨th, v, v', S', w2, w3, g3, hB, hv, a1, km, rr, a2, km3, ht, ho, h3⟩ := both (as := [.int (xs (i + 1)), .int (nI 0)]) oI_f (wr_feel (xs (i + 1)) (nI 0)) (fun ok => j_feel ok (xs (i + 1)) false) h
    have a1 : am_x 255 [.ref x, .int (xs (i + 1)), .int (nI 0), .ref u] w = _ := a1
    have t1 := rr (i + 1) (by omega)
    have t2 := rr (i + 2) (by omega)
    refine ⟨S', w3, g3, ?_, h3⟩
    simp only [r1, r2, t1, t2, a1, km, a2, e2, bk266_568, bk266_575, bk266_581, bk266_588, bk266_584, bk266_589, bk266_593, bk266_602, bk266_608, bk266_615, bk266_611, bk266_616, bk266_619, bk266_1410, bk266_1404, nI_add, Nat.reduceAdd, Option.bind_some, bct_v, bct_t, otl_s, otl_n, List.cons_append, List.nil_append, List.getElem?_cons_zero, List.getElem?_cons_succ, ↓reduceIte]
  · obtain ⟨th, v, v', S', w2, w3, g3, hB, hv, a1, km, rr, a2, km3, ht, ho, h3⟩ := both (as := [.int (xs (i + 1)), .int (nI 1)]) oI_f (wr_feel (xs (i + 1)) (nI 1)) (fun ok => j_feel ok (xs (i + 1)) true) h
    have a1 : am_x 255 [.ref x, .int (xs (i + 1)), .int (nI 1), .ref u] w = _ := a1
    have t1 := rr (i + 1) (by omega)
    have t2 := rr (i + 2) (by omega)
    refine ⟨S', w3, g3, ?_, h3⟩
    simp only [r1, r2, t1, t2, a1, km, a2, e2, bk266_568, bk266_575, bk266_581, bk266_588, bk266_584, bk266_589, bk266_593, bk266_602, bk266_608, bk266_615, bk266_611, bk266_616, bk266_619, bk266_1410, bk266_1404, nI_add, Nat.reduceAdd, Option.bind_some, bct_v, bct_t, otl_s, otl_n, List.cons_append, List.nil_append, List.getElem?_cons_zero, List.getElem?_cons_succ, ↓reduceIte]

set_option maxHeartbeats 1000000 in
theorem lc_listen (h : LI b L xs x m u S w g k s) {i : Nat} (hi : i + 4 < L) : ∃ (S' : sS) (w' : am_Wd) (g' : Nat → Nat), am_run 266 624 [some (.ref b), some (.ref x), some (.ref m), some (.ref u), some (.int (nI i)), none, none, none] [] w = am_run 266 27 [some (.ref b), some (.ref x), some (.ref m), some (.ref u), some (.int (nI (i + 5))), none, none, none] [] w' ∧ LI b L xs x m u S' w' g' (k + 600) (s + 13200) := by
  have hb := h.2.2.2.2.2.1
  obtain ⟨kd, hr, cp, br, n, ws, mi, nd, dr, me, di, re⟩ := S
  have r1 := rd hb (i := i + 1) (by omega)
  have r2 := rd hb (i := i + 2) (by omega)
  by_cases e2 : xs (i + 2) = nI 0
  · obtain ⟨th, v, v', S', w2, w3, g3, hB, hv, a1, km, rr, a2, km3, ht, ho, h3⟩ := both (as := [.int (xs (i + 1)), .int (nI 0)]) oI_f (wr_listen (xs (i + 1)) (nI 0)) (fun ok => j_listen ok (xs (i + 1)) false) h
    have a1 : am_x 256 [.ref x, .int (xs (i + 1)), .int (nI 0), .ref u] w = _ := a1
    have t1 := rr (i + 1) (by omega)
    have t2 := rr (i + 2) (by omega)
    refine ⟨S', w3, g3, ?_, h3⟩
    simp only [r1, r2, t1, t2, a1, km, a2, e2, bk266_624, bk266_631, bk266_637, bk266_644, bk266_640, bk266_645, bk266_649, bk266_658, bk266_664, bk266_671, bk266_667, bk266_672, bk266_675, bk266_1410, bk266_1404, nI_add, Nat.reduceAdd, Option.bind_some, bct_v, bct_t, otl_s, otl_n, List.cons_append, List.nil_append, List.getElem?_cons_zero, List.getElem?_cons_succ, ↓reduceIte]
  · obtain ⟨th, v, v', S', w2, w3, g3, hB, hv, a1, km, rr, a2, km3, ht, ho, h3⟩ := both (as := [.int (xs (i + 1)), .int (nI 1)]) oI_f (wr_listen (xs (i + 1)) (nI 1)) (fun ok => j_listen ok (xs (i + 1)) true) h
    have a1 : am_x 256 [.ref x, .int (xs (i + 1)), .int (nI 1), .ref u] w = _ := a1
    have t1 := rr (i + 1) (by omega)
    have t2 := rr (i + 2) (by omega)
    refine ⟨S', w3, g3, ?_, h3⟩
    simp only [r1, r2, t1, t2, a1, km, a2, e2, bk266_624, bk266_631, bk266_637, bk266_644, bk266_640, bk266_645, bk266_649, bk266_658, bk266_664, bk266_671, bk266_667, bk266_672, bk266_675, bk266_1410, bk266_1404, nI_add, Nat.reduceAdd, Option.bind_some, bct_v, bct_t, otl_s, otl_n, List.cons_append, List.nil_append, List.getElem?_cons_zero, List.getElem?_cons_succ, ↓reduceIte]

set_option maxHeartbeats 1000000 in
theorem lc_charge (h : LI b L xs x m u S w g k s) {i : Nat} (hi : i + 4 < L) : ∃ (S' : sS) (w' : am_Wd) (g' : Nat → Nat), am_run 266 680 [some (.ref b), some (.ref x), some (.ref m), some (.ref u), some (.int (nI i)), none, none, none] [] w = am_run 266 27 [some (.ref b), some (.ref x), some (.ref m), some (.ref u), some (.int (nI (i + 5))), none, none, none] [] w' ∧ LI b L xs x m u S' w' g' (k + 600) (s + 13200) := by
  have hb := h.2.2.2.2.2.1
  obtain ⟨kd, hr, cp, br, n, ws, mi, nd, dr, me, di, re⟩ := S
  have r1 := rd hb (i := i + 1) (by omega)
  have r2 := rd hb (i := i + 2) (by omega)
  obtain ⟨th, v, v', S', w2, w3, g3, hB, hv, a1, km, rr, a2, km3, ht, ho, h3⟩ := both (as := [.int (xs (i + 1)), .int (xs (i + 2))]) oI_f (wr_charge (xs (i + 1)) (xs (i + 2))) (fun ok => j_charge ok (xs (i + 1)) (xs (i + 2))) h
  have a1 : am_x 187 [.ref x, .int (xs (i + 1)), .int (xs (i + 2)), .ref u] w = _ := a1
  have t1 := rr (i + 1) (by omega)
  have t2 := rr (i + 2) (by omega)
  refine ⟨S', w3, g3, ?_, h3⟩
  simp only [r1, r2, t1, t2, a1, km, a2, bk266_680, bk266_687, bk266_693, bk266_697, bk266_706, bk266_712, bk266_715, bk266_1410, bk266_1404, nI_add, Nat.reduceAdd, Option.bind_some, bct_v, bct_t, otl_s, otl_n, List.cons_append, List.nil_append, List.getElem?_cons_zero, List.getElem?_cons_succ, ↓reduceIte]

set_option maxHeartbeats 1000000 in
theorem lc_tellPose (h : LI b L xs x m u S w g k s) {i : Nat} (hi : i + 4 < L) : ∃ (S' : sS) (w' : am_Wd) (g' : Nat → Nat), am_run 266 720 [some (.ref b), some (.ref x), some (.ref m), some (.ref u), some (.int (nI i)), none, none, none] [] w = am_run 266 27 [some (.ref b), some (.ref x), some (.ref m), some (.ref u), some (.int (nI (i + 5))), none, none, none] [] w' ∧ LI b L xs x m u S' w' g' (k + 600) (s + 13200) := by
  have hb := h.2.2.2.2.2.1
  obtain ⟨kd, hr, cp, br, n, ws, mi, nd, dr, me, di, re⟩ := S
  have r1 := rd hb (i := i + 1) (by omega)
  obtain ⟨th, v, v', S', w2, w3, g3, hB, hv, a1, km, rr, a2, km3, ht, ho, h3⟩ := both (as := [.int (xs (i + 1))]) oI_f (wr_tellPose (xs (i + 1))) (fun ok => j_tellPose ok (xs (i + 1))) h
  have a1 : am_x 188 [.ref x, .int (xs (i + 1)), .ref u] w = _ := a1
  have t1 := rr (i + 1) (by omega)
  refine ⟨S', w3, g3, ?_, h3⟩
  simp only [r1, t1, a1, km, a2, bk266_720, bk266_727, bk266_731, bk266_740, bk266_743, bk266_1410, bk266_1404, nI_add, Nat.reduceAdd, Option.bind_some, bct_v, bct_t, otl_s, otl_n, List.cons_append, List.nil_append, List.getElem?_cons_zero, List.getElem?_cons_succ, ↓reduceIte]

set_option maxHeartbeats 1000000 in
theorem lc_meet (h : LI b L xs x m u S w g k s) {i : Nat} (hi : i + 4 < L) : ∃ (S' : sS) (w' : am_Wd) (g' : Nat → Nat), am_run 266 748 [some (.ref b), some (.ref x), some (.ref m), some (.ref u), some (.int (nI i)), none, none, none] [] w = am_run 266 27 [some (.ref b), some (.ref x), some (.ref m), some (.ref u), some (.int (nI (i + 5))), none, none, none] [] w' ∧ LI b L xs x m u S' w' g' (k + 600) (s + 13200) := by
  have hb := h.2.2.2.2.2.1
  obtain ⟨kd, hr, cp, br, n, ws, mi, nd, dr, me, di, re⟩ := S
  have r1 := rd hb (i := i + 1) (by omega)
  have r2 := rd hb (i := i + 2) (by omega)
  obtain ⟨th, v, v', S', w2, w3, g3, hB, hv, a1, km, rr, a2, km3, ht, ho, h3⟩ := both (as := [.int (xs (i + 1)), .int (xs (i + 2))]) oI_f (wr_meet (xs (i + 1)) (xs (i + 2))) (fun ok => j_meet ok (xs (i + 1)) (xs (i + 2))) h
  have a1 : am_x 218 [.ref x, .int (xs (i + 1)), .int (xs (i + 2)), .ref u] w = _ := a1
  have t1 := rr (i + 1) (by omega)
  have t2 := rr (i + 2) (by omega)
  refine ⟨S', w3, g3, ?_, h3⟩
  simp only [r1, r2, t1, t2, a1, km, a2, bk266_748, bk266_755, bk266_761, bk266_765, bk266_774, bk266_780, bk266_783, bk266_1410, bk266_1404, nI_add, Nat.reduceAdd, Option.bind_some, bct_v, bct_t, otl_s, otl_n, List.cons_append, List.nil_append, List.getElem?_cons_zero, List.getElem?_cons_succ, ↓reduceIte]

set_option maxHeartbeats 1000000 in
theorem lc_pass (h : LI b L xs x m u S w g k s) {i : Nat} (hi : i + 4 < L) : ∃ (S' : sS) (w' : am_Wd) (g' : Nat → Nat), am_run 266 788 [some (.ref b), some (.ref x), some (.ref m), some (.ref u), some (.int (nI i)), none, none, none] [] w = am_run 266 27 [some (.ref b), some (.ref x), some (.ref m), some (.ref u), some (.int (nI (i + 5))), none, none, none] [] w' ∧ LI b L xs x m u S' w' g' (k + 600) (s + 13200) := by
  have hb := h.2.2.2.2.2.1
  obtain ⟨kd, hr, cp, br, n, ws, mi, nd, dr, me, di, re⟩ := S
  have r1 := rd hb (i := i + 1) (by omega)
  obtain ⟨th, v, v', S', w2, w3, g3, hB, hv, a1, km, rr, a2, km3, ht, ho, h3⟩ := both (as := [.int (xs (i + 1))]) oI_f (wr_pass (xs (i + 1))) (fun ok => j_pass ok (xs (i + 1))) h
  have a1 : am_x 189 [.ref x, .int (xs (i + 1)), .ref u] w = _ := a1
  have t1 := rr (i + 1) (by omega)
  refine ⟨S', w3, g3, ?_, h3⟩
  simp only [r1, t1, a1, km, a2, bk266_788, bk266_795, bk266_799, bk266_808, bk266_811, bk266_1410, bk266_1404, nI_add, Nat.reduceAdd, Option.bind_some, bct_v, bct_t, otl_s, otl_n, List.cons_append, List.nil_append, List.getElem?_cons_zero, List.getElem?_cons_succ, ↓reduceIte]

set_option maxHeartbeats 1000000 in
theorem lc_call (h : LI b L xs x m u S w g k s) {i : Nat} (hi : i + 4 < L) : ∃ (S' : sS) (w' : am_Wd) (g' : Nat → Nat), am_run 266 816 [some (.ref b), some (.ref x), some (.ref m), some (.ref u), some (.int (nI i)), none, none, none] [] w = am_run 266 27 [some (.ref b), some (.ref x), some (.ref m), some (.ref u), some (.int (nI (i + 5))), none, none, none] [] w' ∧ LI b L xs x m u S' w' g' (k + 600) (s + 13200) := by
  have hb := h.2.2.2.2.2.1
  obtain ⟨kd, hr, cp, br, n, ws, mi, nd, dr, me, di, re⟩ := S
  obtain ⟨v, S', w2, w3, g3, kx, a1, km, a2, h3⟩ := both0 (fun ok => j_call ok) h
  refine ⟨S', w3, g3, ?_, h3⟩
  simp only [kx, a1, km, a2, cmp_s, bk266_816, bk266_820, bk266_825, bk266_1410, bk266_1404, nI_add, Nat.reduceAdd, Option.bind_some, bct_v, bct_t, otl_s, otl_n, List.cons_append, List.nil_append, List.getElem?_cons_zero, List.getElem?_cons_succ, ↓reduceIte]

set_option maxHeartbeats 1000000 in
theorem lc_ofEdge (h : LI b L xs x m u S w g k s) {i : Nat} (hi : i + 4 < L) : ∃ (S' : sS) (w' : am_Wd) (g' : Nat → Nat), am_run 266 829 [some (.ref b), some (.ref x), some (.ref m), some (.ref u), some (.int (nI i)), none, none, none] [] w = am_run 266 27 [some (.ref b), some (.ref x), some (.ref m), some (.ref u), some (.int (nI (i + 5))), none, none, none] [] w' ∧ LI b L xs x m u S' w' g' (k + 600) (s + 13200) := by
  have hb := h.2.2.2.2.2.1
  obtain ⟨kd, hr, cp, br, n, ws, mi, nd, dr, me, di, re⟩ := S
  have r1 := rd hb (i := i + 1) (by omega)
  have r2 := rd hb (i := i + 2) (by omega)
  have r3 := rd hb (i := i + 3) (by omega)
  obtain ⟨th, v, v', S', w2, w3, g3, hB, hv, a1, km, rr, a2, km3, ht, ho, h3⟩ := both (as := [.int (xs (i + 1)), .int (xs (i + 2)), .int (xs (i + 3))]) oI_f (wr_ofEdge (xs (i + 1)) (xs (i + 2)) (xs (i + 3))) (fun ok => j_ofEdge ok (xs (i + 1)) (xs (i + 2)) (xs (i + 3))) h
  have a1 : am_x 219 [.ref x, .int (xs (i + 1)), .int (xs (i + 2)), .int (xs (i + 3)), .ref u] w = _ := a1
  have t1 := rr (i + 1) (by omega)
  have t2 := rr (i + 2) (by omega)
  have t3 := rr (i + 3) (by omega)
  refine ⟨S', w3, g3, ?_, h3⟩
  simp only [r1, r2, r3, t1, t2, t3, a1, km, a2, bk266_829, bk266_836, bk266_842, bk266_848, bk266_852, bk266_861, bk266_867, bk266_873, bk266_876, bk266_1410, bk266_1404, nI_add, Nat.reduceAdd, Option.bind_some, bct_v, bct_t, otl_s, otl_n, List.cons_append, List.nil_append, List.getElem?_cons_zero, List.getElem?_cons_succ, ↓reduceIte]

set_option maxHeartbeats 1000000 in
theorem lc_ofWalker (h : LI b L xs x m u S w g k s) {i : Nat} (hi : i + 4 < L) : ∃ (S' : sS) (w' : am_Wd) (g' : Nat → Nat), am_run 266 881 [some (.ref b), some (.ref x), some (.ref m), some (.ref u), some (.int (nI i)), none, none, none] [] w = am_run 266 27 [some (.ref b), some (.ref x), some (.ref m), some (.ref u), some (.int (nI (i + 5))), none, none, none] [] w' ∧ LI b L xs x m u S' w' g' (k + 600) (s + 13200) := by
  have hb := h.2.2.2.2.2.1
  obtain ⟨kd, hr, cp, br, n, ws, mi, nd, dr, me, di, re⟩ := S
  have r1 := rd hb (i := i + 1) (by omega)
  have r2 := rd hb (i := i + 2) (by omega)
  obtain ⟨th, v, v', S', w2, w3, g3, hB, hv, a1, km, rr, a2, km3, ht, ho, h3⟩ := both (as := [.int (xs (i + 1)), .int (xs (i + 2))]) oI_f (wr_ofWalker (xs (i + 1)) (xs (i + 2))) (fun ok => j_ofWalker ok (xs (i + 1)) (xs (i + 2))) h
  have a1 : am_x 234 [.ref x, .int (xs (i + 1)), .int (xs (i + 2)), .ref u] w = _ := a1
  have t1 := rr (i + 1) (by omega)
  have t2 := rr (i + 2) (by omega)
  refine ⟨S', w3, g3, ?_, h3⟩
  simp only [r1, r2, t1, t2, a1, km, a2, bk266_881, bk266_888, bk266_894, bk266_898, bk266_907, bk266_913, bk266_916, bk266_1410, bk266_1404, nI_add, Nat.reduceAdd, Option.bind_some, bct_v, bct_t, otl_s, otl_n, List.cons_append, List.nil_append, List.getElem?_cons_zero, List.getElem?_cons_succ, ↓reduceIte]

set_option maxHeartbeats 1000000 in
theorem lc_house (h : LI b L xs x m u S w g k s) {i : Nat} (hi : i + 4 < L) : ∃ (S' : sS) (w' : am_Wd) (g' : Nat → Nat), am_run 266 921 [some (.ref b), some (.ref x), some (.ref m), some (.ref u), some (.int (nI i)), none, none, none] [] w = am_run 266 27 [some (.ref b), some (.ref x), some (.ref m), some (.ref u), some (.int (nI (i + 5))), none, none, none] [] w' ∧ LI b L xs x m u S' w' g' (k + 600) (s + 13200) := by
  have hb := h.2.2.2.2.2.1
  obtain ⟨kd, hr, cp, br, n, ws, mi, nd, dr, me, di, re⟩ := S
  have r1 := rd hb (i := i + 1) (by omega)
  obtain ⟨th, v, v', S', w2, w3, g3, hB, hv, a1, km, rr, a2, km3, ht, ho, h3⟩ := both (as := [.int (xs (i + 1))]) oI_f (wr_house (xs (i + 1))) (fun ok => j_house ok (xs (i + 1))) h
  have a1 : am_x 190 [.ref x, .int (xs (i + 1)), .ref u] w = _ := a1
  have t1 := rr (i + 1) (by omega)
  refine ⟨S', w3, g3, ?_, h3⟩
  simp only [r1, t1, a1, km, a2, bk266_921, bk266_928, bk266_932, bk266_941, bk266_944, bk266_1410, bk266_1404, nI_add, Nat.reduceAdd, Option.bind_some, bct_v, bct_t, otl_s, otl_n, List.cons_append, List.nil_append, List.getElem?_cons_zero, List.getElem?_cons_succ, ↓reduceIte]

set_option maxHeartbeats 1000000 in
theorem lc_row (h : LI b L xs x m u S w g k s) {i : Nat} (hi : i + 4 < L) : ∃ (S' : sS) (w' : am_Wd) (g' : Nat → Nat), am_run 266 949 [some (.ref b), some (.ref x), some (.ref m), some (.ref u), some (.int (nI i)), none, none, none] [] w = am_run 266 27 [some (.ref b), some (.ref x), some (.ref m), some (.ref u), some (.int (nI (i + 5))), none, none, none] [] w' ∧ LI b L xs x m u S' w' g' (k + 600) (s + 13200) := by
  have hb := h.2.2.2.2.2.1
  obtain ⟨kd, hr, cp, br, n, ws, mi, nd, dr, me, di, re⟩ := S
  have r1 := rd hb (i := i + 1) (by omega)
  obtain ⟨th, v, w2, w3, g3, a1, km, rr, a2, h3⟩ := bothR (z := xs (i + 1)) (fun ok => j_row ok _) h
  have t1 := rr (i + 1) (by omega)
  refine ⟨_, w3, g3, ?_, h3⟩
  simp only [r1, a1, km, t1, a2, bk266_949, bk266_956, bk266_960, bk266_969, bk266_972, bk266_1410, bk266_1404, nI_add, Nat.reduceAdd, Option.bind_some, bct_v, bct_t, otl_s, otl_n, List.cons_append, List.nil_append, List.getElem?_cons_zero, List.getElem?_cons_succ, ↓reduceIte]

set_option maxHeartbeats 1000000 in
theorem lc_map (h : LI b L xs x m u S w g k s) {i : Nat} (hi : i + 4 < L) : ∃ (S' : sS) (w' : am_Wd) (g' : Nat → Nat), am_run 266 977 [some (.ref b), some (.ref x), some (.ref m), some (.ref u), some (.int (nI i)), none, none, none] [] w = am_run 266 27 [some (.ref b), some (.ref x), some (.ref m), some (.ref u), some (.int (nI (i + 5))), none, none, none] [] w' ∧ LI b L xs x m u S' w' g' (k + 600) (s + 13200) := by
  have hb := h.2.2.2.2.2.1
  obtain ⟨kd, hr, cp, br, n, ws, mi, nd, dr, me, di, re⟩ := S
  have r1 := rd hb (i := i + 1) (by omega)
  have r2 := rd hb (i := i + 2) (by omega)
  have r3 := rd hb (i := i + 3) (by omega)
  obtain ⟨th, v, v', S', w2, w3, g3, hB, hv, a1, km, rr, a2, km3, ht, ho, h3⟩ := both (as := [.int (xs (i + 1)), .int (xs (i + 2)), .int (xs (i + 3))]) oI_f (wr_map (xs (i + 1)) (xs (i + 2)) (xs (i + 3))) (fun ok => j_map ok (xs (i + 1)) (xs (i + 2)) (xs (i + 3))) h
  have a1 : am_x 191 [.ref x, .int (xs (i + 1)), .int (xs (i + 2)), .int (xs (i + 3)), .ref u] w = _ := a1
  have t1 := rr (i + 1) (by omega)
  have t2 := rr (i + 2) (by omega)
  have t3 := rr (i + 3) (by omega)
  refine ⟨S', w3, g3, ?_, h3⟩
  simp only [r1, r2, r3, t1, t2, t3, a1, km, a2, bk266_977, bk266_984, bk266_990, bk266_996, bk266_1000, bk266_1009, bk266_1015, bk266_1021, bk266_1024, bk266_1410, bk266_1404, nI_add, Nat.reduceAdd, Option.bind_some, bct_v, bct_t, otl_s, otl_n, List.cons_append, List.nil_append, List.getElem?_cons_zero, List.getElem?_cons_succ, ↓reduceIte]

set_option maxHeartbeats 1000000 in
theorem lc_may (h : LI b L xs x m u S w g k s) {i : Nat} (hi : i + 4 < L) : ∃ (S' : sS) (w' : am_Wd) (g' : Nat → Nat), am_run 266 1029 [some (.ref b), some (.ref x), some (.ref m), some (.ref u), some (.int (nI i)), none, none, none] [] w = am_run 266 27 [some (.ref b), some (.ref x), some (.ref m), some (.ref u), some (.int (nI (i + 5))), none, none, none] [] w' ∧ LI b L xs x m u S' w' g' (k + 600) (s + 13200) := by
  have hb := h.2.2.2.2.2.1
  obtain ⟨kd, hr, cp, br, n, ws, mi, nd, dr, me, di, re⟩ := S
  have r1 := rd hb (i := i + 1) (by omega)
  have r2 := rd hb (i := i + 2) (by omega)
  obtain ⟨th, v, v', S', w2, w3, g3, hB, hv, a1, km, rr, a2, km3, ht, ho, h3⟩ := both (as := [.int (xs (i + 1)), .int (xs (i + 2))]) oZ_f (wr_may (xs (i + 1)) (xs (i + 2))) (fun ok => j_may ok (xs (i + 1)) (xs (i + 2))) h
  have a1 : am_x 192 [.ref x, .int (xs (i + 1)), .int (xs (i + 2)), .ref u] w = _ := a1
  have t1 := rr (i + 1) (by omega)
  have t2 := rr (i + 2) (by omega)
  refine ⟨S', w3, g3, ?_, h3⟩
  simp only [r1, r2, t1, t2, a1, km, a2, bk266_1029, bk266_1036, bk266_1042, bk266_1046, bk266_1055, bk266_1061, bk266_1064, bk266_1410, bk266_1404, nI_add, Nat.reduceAdd, Option.bind_some, bct_v, bct_t, otl_s, otl_n, List.cons_append, List.nil_append, List.getElem?_cons_zero, List.getElem?_cons_succ, ↓reduceIte]

set_option maxHeartbeats 1000000 in
theorem lc_where (h : LI b L xs x m u S w g k s) {i : Nat} (hi : i + 4 < L) : ∃ (S' : sS) (w' : am_Wd) (g' : Nat → Nat), am_run 266 1069 [some (.ref b), some (.ref x), some (.ref m), some (.ref u), some (.int (nI i)), none, none, none] [] w = am_run 266 27 [some (.ref b), some (.ref x), some (.ref m), some (.ref u), some (.int (nI (i + 5))), none, none, none] [] w' ∧ LI b L xs x m u S' w' g' (k + 600) (s + 13200) := by
  have hb := h.2.2.2.2.2.1
  obtain ⟨kd, hr, cp, br, n, ws, mi, nd, dr, me, di, re⟩ := S
  have r1 := rd hb (i := i + 1) (by omega)
  have r2 := rd hb (i := i + 2) (by omega)
  obtain ⟨th, v, v', S', w2, w3, g3, hB, hv, a1, km, rr, a2, km3, ht, ho, h3⟩ := both (as := [.int (xs (i + 1)), .int (xs (i + 2))]) oJ_f (wr_where (xs (i + 1)) (xs (i + 2))) (fun ok => j_where ok (xs (i + 1)) (xs (i + 2))) h
  have a1 : am_x 193 [.ref x, .int (xs (i + 1)), .int (xs (i + 2)), .ref u] w = _ := a1
  have t1 := rr (i + 1) (by omega)
  have t2 := rr (i + 2) (by omega)
  refine ⟨S', w3, g3, ?_, h3⟩
  simp only [r1, r2, t1, t2, a1, km, a2, bk266_1069, bk266_1076, bk266_1082, bk266_1086, bk266_1095, bk266_1101, bk266_1104, bk266_1410, bk266_1404, nI_add, Nat.reduceAdd, Option.bind_some, bct_v, bct_t, otl_s, otl_n, List.cons_append, List.nil_append, List.getElem?_cons_zero, List.getElem?_cons_succ, ↓reduceIte]

set_option maxHeartbeats 1000000 in
theorem lc_way (h : LI b L xs x m u S w g k s) {i : Nat} (hi : i + 4 < L) : ∃ (S' : sS) (w' : am_Wd) (g' : Nat → Nat), am_run 266 1109 [some (.ref b), some (.ref x), some (.ref m), some (.ref u), some (.int (nI i)), none, none, none] [] w = am_run 266 27 [some (.ref b), some (.ref x), some (.ref m), some (.ref u), some (.int (nI (i + 5))), none, none, none] [] w' ∧ LI b L xs x m u S' w' g' (k + 600) (s + 13200) := by
  have hb := h.2.2.2.2.2.1
  obtain ⟨kd, hr, cp, br, n, ws, mi, nd, dr, me, di, re⟩ := S
  have r1 := rd hb (i := i + 1) (by omega)
  have r2 := rd hb (i := i + 2) (by omega)
  have r3 := rd hb (i := i + 3) (by omega)
  obtain ⟨th, v, v', S', w2, w3, g3, hB, hv, a1, km, rr, a2, km3, ht, ho, h3⟩ := both (as := [.int (xs (i + 1)), .int (xs (i + 2)), .int (xs (i + 3))]) oI_f (wr_way (xs (i + 1)) (xs (i + 2)) (xs (i + 3))) (fun ok => j_way ok (xs (i + 1)) (xs (i + 2)) (xs (i + 3))) h
  have a1 : am_x 194 [.ref x, .int (xs (i + 1)), .int (xs (i + 2)), .int (xs (i + 3)), .ref u] w = _ := a1
  have t1 := rr (i + 1) (by omega)
  have t2 := rr (i + 2) (by omega)
  have t3 := rr (i + 3) (by omega)
  refine ⟨S', w3, g3, ?_, h3⟩
  simp only [r1, r2, r3, t1, t2, t3, a1, km, a2, bk266_1109, bk266_1116, bk266_1122, bk266_1128, bk266_1132, bk266_1141, bk266_1147, bk266_1153, bk266_1156, bk266_1410, bk266_1404, nI_add, Nat.reduceAdd, Option.bind_some, bct_v, bct_t, otl_s, otl_n, List.cons_append, List.nil_append, List.getElem?_cons_zero, List.getElem?_cons_succ, ↓reduceIte]

set_option maxHeartbeats 1000000 in
theorem lc_safety (h : LI b L xs x m u S w g k s) {i : Nat} (hi : i + 4 < L) : ∃ (S' : sS) (w' : am_Wd) (g' : Nat → Nat), am_run 266 1161 [some (.ref b), some (.ref x), some (.ref m), some (.ref u), some (.int (nI i)), none, none, none] [] w = am_run 266 27 [some (.ref b), some (.ref x), some (.ref m), some (.ref u), some (.int (nI (i + 5))), none, none, none] [] w' ∧ LI b L xs x m u S' w' g' (k + 600) (s + 13200) := by
  have hb := h.2.2.2.2.2.1
  obtain ⟨kd, hr, cp, br, n, ws, mi, nd, dr, me, di, re⟩ := S
  have r1 := rd hb (i := i + 1) (by omega)
  have r2 := rd hb (i := i + 2) (by omega)
  obtain ⟨th, v, v', S', w2, w3, g3, hB, hv, a1, km, rr, a2, km3, ht, ho, h3⟩ := both (as := [.int (xs (i + 1)), .int (xs (i + 2))]) oI_f (wr_safety (xs (i + 1)) (xs (i + 2))) (fun ok => j_safety ok (xs (i + 1)) (xs (i + 2))) h
  have a1 : am_x 249 [.ref x, .int (xs (i + 1)), .int (xs (i + 2)), .ref u] w = _ := a1
  have t1 := rr (i + 1) (by omega)
  have t2 := rr (i + 2) (by omega)
  refine ⟨S', w3, g3, ?_, h3⟩
  simp only [r1, r2, t1, t2, a1, km, a2, bk266_1161, bk266_1168, bk266_1174, bk266_1178, bk266_1187, bk266_1193, bk266_1196, bk266_1410, bk266_1404, nI_add, Nat.reduceAdd, Option.bind_some, bct_v, bct_t, otl_s, otl_n, List.cons_append, List.nil_append, List.getElem?_cons_zero, List.getElem?_cons_succ, ↓reduceIte]

set_option maxHeartbeats 1000000 in
theorem lc_doubt (h : LI b L xs x m u S w g k s) {i : Nat} (hi : i + 4 < L) : ∃ (S' : sS) (w' : am_Wd) (g' : Nat → Nat), am_run 266 1201 [some (.ref b), some (.ref x), some (.ref m), some (.ref u), some (.int (nI i)), none, none, none] [] w = am_run 266 27 [some (.ref b), some (.ref x), some (.ref m), some (.ref u), some (.int (nI (i + 5))), none, none, none] [] w' ∧ LI b L xs x m u S' w' g' (k + 600) (s + 13200) := by
  have hb := h.2.2.2.2.2.1
  obtain ⟨kd, hr, cp, br, n, ws, mi, nd, dr, me, di, re⟩ := S
  have r1 := rd hb (i := i + 1) (by omega)
  obtain ⟨th, v, v', S', w2, w3, g3, hB, hv, a1, km, rr, a2, km3, ht, ho, h3⟩ := both (as := [.int (xs (i + 1))]) oD_f (wr_doubt (xs (i + 1))) (fun ok => j_doubt ok (xs (i + 1))) h
  have a1 : am_x 148 [.ref x, .int (xs (i + 1)), .ref u] w = _ := a1
  have t1 := rr (i + 1) (by omega)
  refine ⟨S', w3, g3, ?_, h3⟩
  simp only [r1, t1, a1, km, a2, bk266_1201, bk266_1208, bk266_1212, bk266_1221, bk266_1224, bk266_1410, bk266_1404, nI_add, Nat.reduceAdd, Option.bind_some, bct_v, bct_t, otl_s, otl_n, List.cons_append, List.nil_append, List.getElem?_cons_zero, List.getElem?_cons_succ, ↓reduceIte]

set_option maxHeartbeats 1000000 in
theorem lc_worst (h : LI b L xs x m u S w g k s) {i : Nat} (hi : i + 4 < L) : ∃ (S' : sS) (w' : am_Wd) (g' : Nat → Nat), am_run 266 1229 [some (.ref b), some (.ref x), some (.ref m), some (.ref u), some (.int (nI i)), none, none, none] [] w = am_run 266 27 [some (.ref b), some (.ref x), some (.ref m), some (.ref u), some (.int (nI (i + 5))), none, none, none] [] w' ∧ LI b L xs x m u S' w' g' (k + 600) (s + 13200) := by
  have hb := h.2.2.2.2.2.1
  obtain ⟨kd, hr, cp, br, n, ws, mi, nd, dr, me, di, re⟩ := S
  have r1 := rd hb (i := i + 1) (by omega)
  have r2 := rd hb (i := i + 2) (by omega)
  obtain ⟨th, v, v', S', w2, w3, g3, hB, hv, a1, km, rr, a2, km3, ht, ho, h3⟩ := both (as := [.int (xs (i + 1)), .int (xs (i + 2))]) oI_f (wr_worst (xs (i + 1)) (xs (i + 2))) (fun ok => j_worst ok (xs (i + 1)) (xs (i + 2))) h
  have a1 : am_x 235 [.ref x, .int (xs (i + 1)), .int (xs (i + 2)), .ref u] w = _ := a1
  have t1 := rr (i + 1) (by omega)
  have t2 := rr (i + 2) (by omega)
  refine ⟨S', w3, g3, ?_, h3⟩
  simp only [r1, r2, t1, t2, a1, km, a2, bk266_1229, bk266_1236, bk266_1242, bk266_1246, bk266_1255, bk266_1261, bk266_1264, bk266_1410, bk266_1404, nI_add, Nat.reduceAdd, Option.bind_some, bct_v, bct_t, otl_s, otl_n, List.cons_append, List.nil_append, List.getElem?_cons_zero, List.getElem?_cons_succ, ↓reduceIte]

set_option maxHeartbeats 1000000 in
theorem lc_best (h : LI b L xs x m u S w g k s) {i : Nat} (hi : i + 4 < L) : ∃ (S' : sS) (w' : am_Wd) (g' : Nat → Nat), am_run 266 1269 [some (.ref b), some (.ref x), some (.ref m), some (.ref u), some (.int (nI i)), none, none, none] [] w = am_run 266 27 [some (.ref b), some (.ref x), some (.ref m), some (.ref u), some (.int (nI (i + 5))), none, none, none] [] w' ∧ LI b L xs x m u S' w' g' (k + 600) (s + 13200) := by
  have hb := h.2.2.2.2.2.1
  obtain ⟨kd, hr, cp, br, n, ws, mi, nd, dr, me, di, re⟩ := S
  have r1 := rd hb (i := i + 1) (by omega)
  obtain ⟨th, v, v', S', w2, w3, g3, hB, hv, a1, km, rr, a2, km3, ht, ho, h3⟩ := both (as := [.int (xs (i + 1))]) oI_f (wr_best (xs (i + 1))) (fun ok => j_best ok (xs (i + 1))) h
  have a1 : am_x 236 [.ref x, .int (xs (i + 1)), .ref u] w = _ := a1
  have t1 := rr (i + 1) (by omega)
  refine ⟨S', w3, g3, ?_, h3⟩
  simp only [r1, t1, a1, km, a2, bk266_1269, bk266_1276, bk266_1280, bk266_1289, bk266_1292, bk266_1410, bk266_1404, nI_add, Nat.reduceAdd, Option.bind_some, bct_v, bct_t, otl_s, otl_n, List.cons_append, List.nil_append, List.getElem?_cons_zero, List.getElem?_cons_succ, ↓reduceIte]

set_option maxHeartbeats 1000000 in
theorem lc_wouldFeel (h : LI b L xs x m u S w g k s) {i : Nat} (hi : i + 4 < L) : ∃ (S' : sS) (w' : am_Wd) (g' : Nat → Nat), am_run 266 1297 [some (.ref b), some (.ref x), some (.ref m), some (.ref u), some (.int (nI i)), none, none, none] [] w = am_run 266 27 [some (.ref b), some (.ref x), some (.ref m), some (.ref u), some (.int (nI (i + 5))), none, none, none] [] w' ∧ LI b L xs x m u S' w' g' (k + 600) (s + 13200) := by
  have hb := h.2.2.2.2.2.1
  obtain ⟨kd, hr, cp, br, n, ws, mi, nd, dr, me, di, re⟩ := S
  have r1 := rd hb (i := i + 1) (by omega)
  have r2 := rd hb (i := i + 2) (by omega)
  obtain ⟨th, v, v', S', w2, w3, g3, hB, hv, a1, km, rr, a2, km3, ht, ho, h3⟩ := both (as := [.int (xs (i + 1)), .int (xs (i + 2))]) oI_f (wr_wouldFeel (xs (i + 1)) (xs (i + 2))) (fun ok => j_wouldFeel ok (xs (i + 1)) (xs (i + 2))) h
  have a1 : am_x 220 [.ref x, .int (xs (i + 1)), .int (xs (i + 2)), .ref u] w = _ := a1
  have t1 := rr (i + 1) (by omega)
  have t2 := rr (i + 2) (by omega)
  refine ⟨S', w3, g3, ?_, h3⟩
  simp only [r1, r2, t1, t2, a1, km, a2, bk266_1297, bk266_1304, bk266_1310, bk266_1314, bk266_1323, bk266_1329, bk266_1332, bk266_1410, bk266_1404, nI_add, Nat.reduceAdd, Option.bind_some, bct_v, bct_t, otl_s, otl_n, List.cons_append, List.nil_append, List.getElem?_cons_zero, List.getElem?_cons_succ, ↓reduceIte]

set_option maxHeartbeats 1000000 in
theorem lc_wouldBe (h : LI b L xs x m u S w g k s) {i : Nat} (hi : i + 4 < L) : ∃ (S' : sS) (w' : am_Wd) (g' : Nat → Nat), am_run 266 1337 [some (.ref b), some (.ref x), some (.ref m), some (.ref u), some (.int (nI i)), none, none, none] [] w = am_run 266 27 [some (.ref b), some (.ref x), some (.ref m), some (.ref u), some (.int (nI (i + 5))), none, none, none] [] w' ∧ LI b L xs x m u S' w' g' (k + 600) (s + 13200) := by
  have hb := h.2.2.2.2.2.1
  obtain ⟨kd, hr, cp, br, n, ws, mi, nd, dr, me, di, re⟩ := S
  have r1 := rd hb (i := i + 1) (by omega)
  have r2 := rd hb (i := i + 2) (by omega)
  obtain ⟨th, v, v', S', w2, w3, g3, hB, hv, a1, km, rr, a2, km3, ht, ho, h3⟩ := both (as := [.int (xs (i + 1)), .int (xs (i + 2))]) oI_f (wr_wouldBe (xs (i + 1)) (xs (i + 2))) (fun ok => j_wouldBe ok (xs (i + 1)) (xs (i + 2))) h
  have a1 : am_x 237 [.ref x, .int (xs (i + 1)), .int (xs (i + 2)), .ref u] w = _ := a1
  have t1 := rr (i + 1) (by omega)
  have t2 := rr (i + 2) (by omega)
  refine ⟨S', w3, g3, ?_, h3⟩
  simp only [r1, r2, t1, t2, a1, km, a2, bk266_1337, bk266_1344, bk266_1350, bk266_1354, bk266_1363, bk266_1369, bk266_1372, bk266_1410, bk266_1404, nI_add, Nat.reduceAdd, Option.bind_some, bct_v, bct_t, otl_s, otl_n, List.cons_append, List.nil_append, List.getElem?_cons_zero, List.getElem?_cons_succ, ↓reduceIte]

set_option maxHeartbeats 1000000 in
theorem lc_isSound (h : LI b L xs x m u S w g k s) {i : Nat} (hi : i + 4 < L) : ∃ (S' : sS) (w' : am_Wd) (g' : Nat → Nat), am_run 266 1377 [some (.ref b), some (.ref x), some (.ref m), some (.ref u), some (.int (nI i)), none, none, none] [] w = am_run 266 27 [some (.ref b), some (.ref x), some (.ref m), some (.ref u), some (.int (nI (i + 5))), none, none, none] [] w' ∧ LI b L xs x m u S' w' g' (k + 600) (s + 13200) := by
  have hb := h.2.2.2.2.2.1
  obtain ⟨kd, hr, cp, br, n, ws, mi, nd, dr, me, di, re⟩ := S
  obtain ⟨v, S', w2, w3, g3, kx, a1, km, a2, h3⟩ := both0 (fun ok => j_isSound ok) h
  refine ⟨S', w3, g3, ?_, h3⟩
  simp only [kx, a1, km, a2, cmp_s, bk266_1377, bk266_1381, bk266_1386, bk266_1410, bk266_1404, nI_add, Nat.reduceAdd, Option.bind_some, bct_v, bct_t, otl_s, otl_n, List.cons_append, List.nil_append, List.getElem?_cons_zero, List.getElem?_cons_succ, ↓reduceIte]

set_option maxHeartbeats 1000000 in
theorem lc_digest (h : LI b L xs x m u S w g k s) {i : Nat} (hi : i + 4 < L) : ∃ (S' : sS) (w' : am_Wd) (g' : Nat → Nat), am_run 266 1390 [some (.ref b), some (.ref x), some (.ref m), some (.ref u), some (.int (nI i)), none, none, none] [] w = am_run 266 27 [some (.ref b), some (.ref x), some (.ref m), some (.ref u), some (.int (nI (i + 5))), none, none, none] [] w' ∧ LI b L xs x m u S' w' g' (k + 600) (s + 13200) := by
  have hb := h.2.2.2.2.2.1
  obtain ⟨kd, hr, cp, br, n, ws, mi, nd, dr, me, di, re⟩ := S
  obtain ⟨v, S', w2, w3, g3, kx, a1, km, a2, h3⟩ := both0 (fun ok => j_digest ok) h
  refine ⟨S', w3, g3, ?_, h3⟩
  simp only [kx, a1, km, a2, cmp_s, not_true_eq_false, bk266_1390, bk266_1394, bk266_1398, bk266_1402, bk266_1410, bk266_1404, nI_add, Nat.reduceAdd, Option.bind_some, bct_v, bct_t, otl_s, otl_n, List.cons_append, List.nil_append, List.getElem?_cons_zero, List.getElem?_cons_succ, ↓reduceIte]

end LC
end
section
/-! THE LAW'S LOOP. Laid by wip/gen/lawc.py. Mine. -/
section LP
variable {w : am_Wd} {g : Nat → Nat} {x m u b L : Nat} {xs : Nat → Int32} {S : sS} {k s : Nat}
theorem sub5 {L i : Nat} (hL : L ≤ 2560) (hi : i ≤ 2565) : (nI L - nI 5 < nI i) = (L < i + 5) := by
  by_cases h : 5 ≤ L
  · rw [nI_subS h, nI_ltS (by omega) (by omega)]
    exact propext ⟨fun q => by omega, fun q => by omega⟩
  · have z : nI 0 ≤ nI i := by rw [nI_leS (by decide) (by omega)]; exact Nat.zero_le i
    refine propext ⟨fun _ => by omega, fun _ => ?_⟩
    have y : ∀ j : Fin 5, nI j.val - nI 5 < nI 0 := by decide +kernel
    exact Int32.lt_of_lt_of_le (y ⟨L, by omega⟩) z
set_option maxHeartbeats 1000000 in
theorem lc_all (h : LI b L xs x m u S w g k s) {i : Nat} (hi : i + 4 < L) : ∃ (S' : sS) (w' : am_Wd) (g' : Nat → Nat), am_run 266 27 [some (.ref b), some (.ref x), some (.ref m), some (.ref u), some (.int (nI i)), none, none, none] [] w = am_run 266 27 [some (.ref b), some (.ref x), some (.ref m), some (.ref u), some (.int (nI (i + 5))), none, none, none] [] w' ∧ LI b L xs x m u S' w' g' (k + 600) (s + 13200) := by
  have hb := h.2.2.2.2.2.1
  have r0 := rd hb (i := i) (by omega)
  have ln := lenI hb.1 (by decide)
  have hL := hb.2.2.2
  have q5 : (nI L - nI 5 < nI i) = False := by rw [sub5 hL (by omega)]; exact eq_false (by omega)
  have st : am_run 266 27 [some (.ref b), some (.ref x), some (.ref m), some (.ref u), some (.int (nI i)), none, none, none] [] w = am_run 266 40 [some (.ref b), some (.ref x), some (.ref m), some (.ref u), some (.int (nI i)), none, none, none] [.int (xs i)] w := by
    simp only [bk266_27, bk266_31, bk266_36, ln, q5, r0, Option.bind_some, bct_v, bct_t, otl_s, otl_n, List.cons_append, List.nil_append, List.getElem?_cons_zero, List.getElem?_cons_succ, ↓reduceIte]
  rw [st, bk266_40]
  by_cases c0 : (xs i &&& nI 31) = nI 0
  · rw [if_pos c0]; exact lc_edge h hi
  rw [if_neg c0]
  by_cases c1 : (xs i &&& nI 31) = nI 1
  · rw [if_pos c1]; exact lc_lay h hi
  rw [if_neg c1]
  by_cases c2 : (xs i &&& nI 31) = nI 2
  · rw [if_pos c2]; exact lc_cell h hi
  rw [if_neg c2]
  by_cases c3 : (xs i &&& nI 31) = nI 3
  · rw [if_pos c3]; exact lc_walker h hi
  rw [if_neg c3]
  by_cases c4 : (xs i &&& nI 31) = nI 4
  · rw [if_pos c4]; exact lc_forward h hi
  rw [if_neg c4]
  by_cases c5 : (xs i &&& nI 31) = nI 5
  · rw [if_pos c5]; exact lc_turn h hi
  rw [if_neg c5]
  by_cases c6 : (xs i &&& nI 31) = nI 6
  · rw [if_pos c6]; exact lc_feel h hi
  rw [if_neg c6]
  by_cases c7 : (xs i &&& nI 31) = nI 7
  · rw [if_pos c7]; exact lc_listen h hi
  rw [if_neg c7]
  by_cases c8 : (xs i &&& nI 31) = nI 8
  · rw [if_pos c8]; exact lc_charge h hi
  rw [if_neg c8]
  by_cases c9 : (xs i &&& nI 31) = nI 9
  · rw [if_pos c9]; exact lc_tellPose h hi
  rw [if_neg c9]
  by_cases c10 : (xs i &&& nI 31) = nI 10
  · rw [if_pos c10]; exact lc_meet h hi
  rw [if_neg c10]
  by_cases c11 : (xs i &&& nI 31) = nI 11
  · rw [if_pos c11]; exact lc_pass h hi
  rw [if_neg c11]
  by_cases c12 : (xs i &&& nI 31) = nI 12
  · rw [if_pos c12]; exact lc_call h hi
  rw [if_neg c12]
  by_cases c13 : (xs i &&& nI 31) = nI 13
  · rw [if_pos c13]; exact lc_ofEdge h hi
  rw [if_neg c13]
  by_cases c14 : (xs i &&& nI 31) = nI 14
  · rw [if_pos c14]; exact lc_ofWalker h hi
  rw [if_neg c14]
  by_cases c15 : (xs i &&& nI 31) = nI 15
  · rw [if_pos c15]; exact lc_house h hi
  rw [if_neg c15]
  by_cases c16 : (xs i &&& nI 31) = nI 16
  · rw [if_pos c16]; exact lc_row h hi
  rw [if_neg c16]
  by_cases c17 : (xs i &&& nI 31) = nI 17
  · rw [if_pos c17]; exact lc_map h hi
  rw [if_neg c17]
  by_cases c18 : (xs i &&& nI 31) = nI 18
  · rw [if_pos c18]; exact lc_may h hi
  rw [if_neg c18]
  by_cases c19 : (xs i &&& nI 31) = nI 19
  · rw [if_pos c19]; exact lc_where h hi
  rw [if_neg c19]
  by_cases c20 : (xs i &&& nI 31) = nI 20
  · rw [if_pos c20]; exact lc_way h hi
  rw [if_neg c20]
  by_cases c21 : (xs i &&& nI 31) = nI 21
  · rw [if_pos c21]; exact lc_safety h hi
  rw [if_neg c21]
  by_cases c22 : (xs i &&& nI 31) = nI 22
  · rw [if_pos c22]; exact lc_doubt h hi
  rw [if_neg c22]
  by_cases c23 : (xs i &&& nI 31) = nI 23
  · rw [if_pos c23]; exact lc_worst h hi
  rw [if_neg c23]
  by_cases c24 : (xs i &&& nI 31) = nI 24
  · rw [if_pos c24]; exact lc_best h hi
  rw [if_neg c24]
  by_cases c25 : (xs i &&& nI 31) = nI 25
  · rw [if_pos c25]; exact lc_wouldFeel h hi
  rw [if_neg c25]
  by_cases c26 : (xs i &&& nI 31) = nI 26
  · rw [if_pos c26]; exact lc_wouldBe h hi
  rw [if_neg c26]
  by_cases c27 : (xs i &&& nI 31) = nI 27
  · rw [if_pos c27]; exact lc_isSound h hi
  rw [if_neg c27]
  by_cases c28 : (xs i &&& nI 31) = nI 28
  · rw [if_pos c28]; exact lc_digest h hi
  rw [if_neg c28]
  refine ⟨S, w, g, ?_, li_wk h (by omega) (by omega)⟩
  simp only [bk266_1410, bk266_1404, nI_add, Option.bind_some, bct_v, bct_t, otl_s, otl_n, List.cons_append, List.nil_append, List.getElem?_cons_zero, List.getElem?_cons_succ, ↓reduceIte]
theorem law_go : ∀ (f i : Nat) (S : sS) (w : am_Wd) (g : Nat → Nat) (k s : Nat), L < i + 5 * f + 5 → i ≤ 2560 → LI b L xs x m u S w g k s → ∃ w', am_run 266 27 [some (.ref b), some (.ref x), some (.ref m), some (.ref u), some (.int (nI i)), none, none, none] [] w = some (.inl (some (.int (nI 1))), w') ∧ w'.2.1 ≤ k + 600 * f ∧ w'.2.2.1 ≤ s + 13200 * f := by
  have stop : ∀ (i : Nat) (S : sS) (w : am_Wd) (g : Nat → Nat) (k s : Nat), L < i + 5 → i ≤ 2560 → LI b L xs x m u S w g k s → am_run 266 27 [some (.ref b), some (.ref x), some (.ref m), some (.ref u), some (.int (nI i)), none, none, none] [] w = some (.inl (some (.int (nI 1))), w) := by
    intro i S w g k s hL hi h
    have hb := h.2.2.2.2.2.1
    have ln := lenI hb.1 (by decide)
    have q5 : (nI L - nI 5 < nI i) = True := by rw [sub5 hb.2.2.2 (by omega)]; exact eq_true hL
    simp only [bk266_27, bk266_31, bk266_36, bk266_1410, ln, q5, Option.bind_some, bct_v, bct_t, otl_s, otl_n, List.cons_append, List.nil_append, List.getElem?_cons_zero, List.getElem?_cons_succ, ↓reduceIte]
  intro f
  induction f with
  | zero =>
    intro i S w g k s hL hi h
    exact ⟨w, stop i S w g k s (by omega) hi h, by have := h.2.2.2.2.2.2.2.2.1; omega, by have := h.2.2.2.2.2.2.2.2.2; omega⟩
  | succ f ih =>
    intro i S w g k s hL hi h
    by_cases q : L < i + 5
    · exact ⟨w, stop i S w g k s q hi h, by have := h.2.2.2.2.2.2.2.2.1; omega, by have := h.2.2.2.2.2.2.2.2.2; omega⟩
    · have hb := h.2.2.2.2.2.1
      obtain ⟨S', w', g', t, h'⟩ := lc_all h (i := i) (by omega)
      obtain ⟨w2, t2, l1, l2⟩ := ih (i + 5) S' w' g' _ _ (by omega) (by have := hb.2.2.2; omega) h'
      exact ⟨w2, t.trans t2, by omega, by omega⟩
end LP
end
