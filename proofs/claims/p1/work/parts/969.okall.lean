/-! every method, every number. Mine. -/
theorem am_mth_no {y : Nat} (h : 270 ≤ y) : am_mth y = [] := by
  unfold am_mth
  by_cases q : y / 40 < 7
  · have q6 : y / 40 = 6 := by omega
    rw [q6]
    have hl : am_prog6.length = 270 - 240 := by decide +kernel
    show am_prog6.getD (y % 40) [] = []
    rw [List.getD_eq_getElem?_getD, List.getElem?_eq_none (by omega)]
    rfl
  · have hl : am_progs.length = 7 := rfl
    rw [show am_progs.getD (y / 40) [] = [] by rw [List.getD_eq_getElem?_getD, List.getElem?_eq_none (by omega)]; rfl]
    rfl
theorem am_mt_no {y : Nat} (h : 270 ≤ y) : am_mt y = (⟨"", "", ""⟩, .mk #[], 0, none, 0, []) := by
  unfold am_mt
  by_cases q : y / 40 < 7
  · have q6 : y / 40 = 6 := by omega
    rw [q6]
    have hl : am_meta6.length = 270 - 240 := by decide +kernel
    show am_meta6.getD (y % 40) _ = _
    rw [List.getD_eq_getElem?_getD, List.getElem?_eq_none (by omega)]
    rfl
  · have hl : am_metas.length = 7 := rfl
    rw [show am_metas.getD (y / 40) [] = [] by rw [List.getD_eq_getElem?_getD, List.getElem?_eq_none (by omega)]; rfl]
    rfl
theorem am_okm_all (y : Nat) : am_okm y = true := by
  by_cases h : y < 270
  · exact am_okm_lt y h
  · unfold am_okm
    rw [am_mth_no (by omega)]
    rfl
theorem am_hck_r : (List.range 270).all am_hck = true := by decide +kernel
theorem am_hck_all (y : Nat) : am_hck y = true := by
  by_cases h : y < 270
  · exact List.all_eq_true.mp am_hck_r y (List.mem_range.mpr h)
  · unfold am_hck am_hh
    rw [am_mt_no (by omega)]
    rfl
