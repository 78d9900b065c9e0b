/-! every method, every number. Mine. -/
theorem am_okm_all (y : Nat) : am_okm y = true := by
  by_cases h : y < 268
  · exact am_okm_lt y h
  · have hl : am_prog.length = 268 := by decide +kernel
    unfold am_okm am_mth
    rw [List.getD_eq_getElem?_getD, List.getElem?_eq_none (by omega)]
    rfl
theorem am_hck_r : (List.range 268).all am_hck = true := by decide +kernel
theorem am_hck_all (y : Nat) : am_hck y = true := by
  by_cases h : y < 268
  · exact List.all_eq_true.mp am_hck_r y (List.mem_range.mpr h)
  · have hl : am_meta.length = 268 := by decide +kernel
    unfold am_hck am_hh am_mt
    rw [List.getD_eq_getElem?_getD, List.getElem?_eq_none (by omega)]
    rfl
