/-! EVERY METHOD: its rows are what the words link (by the kernel; laid by wip/gen/okg.py). Mine. -/
theorem am_okg159 : (List.range' 159 6).all am_okm = true := by decide +kernel
theorem am_okg165 : (List.range' 165 38).all am_okm = true := by decide +kernel
theorem am_okg203 : (List.range' 203 39).all am_okm = true := by decide +kernel
theorem am_okg242 : (List.range' 242 25).all am_okm = true := by decide +kernel
theorem am_okg267 : (List.range' 267 3).all am_okm = true := by decide +kernel
theorem am_okg270 : (List.range' 270 1).all am_okm = true := by decide +kernel
theorem am_okm_lt (y : Nat) (h : y < 271) : am_okm y = true := by
  by_cases h0 : y < 13
  · exact List.all_eq_true.mp am_okg0 y (List.mem_range'_1.mpr ⟨by omega, by omega⟩)
  by_cases h1 : y < 23
  · exact List.all_eq_true.mp am_okg13 y (List.mem_range'_1.mpr ⟨by omega, by omega⟩)
  by_cases h2 : y < 73
  · exact List.all_eq_true.mp am_okg23 y (List.mem_range'_1.mpr ⟨by omega, by omega⟩)
  by_cases h3 : y < 84
  · exact List.all_eq_true.mp am_okg73 y (List.mem_range'_1.mpr ⟨by omega, by omega⟩)
  by_cases h4 : y < 123
  · exact List.all_eq_true.mp am_okg84 y (List.mem_range'_1.mpr ⟨by omega, by omega⟩)
  by_cases h5 : y < 135
  · exact List.all_eq_true.mp am_okg123 y (List.mem_range'_1.mpr ⟨by omega, by omega⟩)
  by_cases h6 : y < 159
  · exact List.all_eq_true.mp am_okg135 y (List.mem_range'_1.mpr ⟨by omega, by omega⟩)
  by_cases h7 : y < 165
  · exact List.all_eq_true.mp am_okg159 y (List.mem_range'_1.mpr ⟨by omega, by omega⟩)
  by_cases h8 : y < 203
  · exact List.all_eq_true.mp am_okg165 y (List.mem_range'_1.mpr ⟨by omega, by omega⟩)
  by_cases h9 : y < 242
  · exact List.all_eq_true.mp am_okg203 y (List.mem_range'_1.mpr ⟨by omega, by omega⟩)
  by_cases h10 : y < 267
  · exact List.all_eq_true.mp am_okg242 y (List.mem_range'_1.mpr ⟨by omega, by omega⟩)
  by_cases h11 : y < 270
  · exact List.all_eq_true.mp am_okg267 y (List.mem_range'_1.mpr ⟨by omega, by omega⟩)
  by_cases h12 : y < 271
  · exact List.all_eq_true.mp am_okg270 y (List.mem_range'_1.mpr ⟨by omega, by omega⟩)
  omega
