/-! EVERY METHOD: its rows are what the words link (by the kernel). Mine. -/
theorem am_okg0 : (List.range' 0 12).all am_okm = true := by decide +kernel
theorem am_okg1 : (List.range' 12 12).all am_okm = true := by decide +kernel
theorem am_okg2 : (List.range' 24 12).all am_okm = true := by decide +kernel
theorem am_okg3 : (List.range' 36 12).all am_okm = true := by decide +kernel
theorem am_okg4 : (List.range' 48 12).all am_okm = true := by decide +kernel
theorem am_okg5 : (List.range' 60 12).all am_okm = true := by decide +kernel
theorem am_okg6 : (List.range' 72 12).all am_okm = true := by decide +kernel
theorem am_okg7 : (List.range' 84 12).all am_okm = true := by decide +kernel
theorem am_okg8 : (List.range' 96 12).all am_okm = true := by decide +kernel
theorem am_okg9 : (List.range' 108 12).all am_okm = true := by decide +kernel
theorem am_okg10 : (List.range' 120 12).all am_okm = true := by decide +kernel
theorem am_okg11 : (List.range' 132 12).all am_okm = true := by decide +kernel
theorem am_okg12 : (List.range' 144 12).all am_okm = true := by decide +kernel
theorem am_okg13 : (List.range' 156 12).all am_okm = true := by decide +kernel
theorem am_okg14 : (List.range' 168 12).all am_okm = true := by decide +kernel
theorem am_okg15 : (List.range' 180 12).all am_okm = true := by decide +kernel
theorem am_okg16 : (List.range' 192 12).all am_okm = true := by decide +kernel
theorem am_okg17 : (List.range' 204 12).all am_okm = true := by decide +kernel
theorem am_okg18 : (List.range' 216 12).all am_okm = true := by decide +kernel
theorem am_okg19 : (List.range' 228 12).all am_okm = true := by decide +kernel
theorem am_okg20 : (List.range' 240 12).all am_okm = true := by decide +kernel
theorem am_okg21 : (List.range' 252 12).all am_okm = true := by decide +kernel
theorem am_okg22 : (List.range' 264 3).all am_okm = true := by decide +kernel
theorem am_okm_lt (y : Nat) (h : y < 267) : am_okm y = true := by
  by_cases h0 : y < 12
  · exact List.all_eq_true.mp am_okg0 y (List.mem_range'_1.mpr ⟨by omega, by omega⟩)
  by_cases h1 : y < 24
  · exact List.all_eq_true.mp am_okg1 y (List.mem_range'_1.mpr ⟨by omega, by omega⟩)
  by_cases h2 : y < 36
  · exact List.all_eq_true.mp am_okg2 y (List.mem_range'_1.mpr ⟨by omega, by omega⟩)
  by_cases h3 : y < 48
  · exact List.all_eq_true.mp am_okg3 y (List.mem_range'_1.mpr ⟨by omega, by omega⟩)
  by_cases h4 : y < 60
  · exact List.all_eq_true.mp am_okg4 y (List.mem_range'_1.mpr ⟨by omega, by omega⟩)
  by_cases h5 : y < 72
  · exact List.all_eq_true.mp am_okg5 y (List.mem_range'_1.mpr ⟨by omega, by omega⟩)
  by_cases h6 : y < 84
  · exact List.all_eq_true.mp am_okg6 y (List.mem_range'_1.mpr ⟨by omega, by omega⟩)
  by_cases h7 : y < 96
  · exact List.all_eq_true.mp am_okg7 y (List.mem_range'_1.mpr ⟨by omega, by omega⟩)
  by_cases h8 : y < 108
  · exact List.all_eq_true.mp am_okg8 y (List.mem_range'_1.mpr ⟨by omega, by omega⟩)
  by_cases h9 : y < 120
  · exact List.all_eq_true.mp am_okg9 y (List.mem_range'_1.mpr ⟨by omega, by omega⟩)
  by_cases h10 : y < 132
  · exact List.all_eq_true.mp am_okg10 y (List.mem_range'_1.mpr ⟨by omega, by omega⟩)
  by_cases h11 : y < 144
  · exact List.all_eq_true.mp am_okg11 y (List.mem_range'_1.mpr ⟨by omega, by omega⟩)
  by_cases h12 : y < 156
  · exact List.all_eq_true.mp am_okg12 y (List.mem_range'_1.mpr ⟨by omega, by omega⟩)
  by_cases h13 : y < 168
  · exact List.all_eq_true.mp am_okg13 y (List.mem_range'_1.mpr ⟨by omega, by omega⟩)
  by_cases h14 : y < 180
  · exact List.all_eq_true.mp am_okg14 y (List.mem_range'_1.mpr ⟨by omega, by omega⟩)
  by_cases h15 : y < 192
  · exact List.all_eq_true.mp am_okg15 y (List.mem_range'_1.mpr ⟨by omega, by omega⟩)
  by_cases h16 : y < 204
  · exact List.all_eq_true.mp am_okg16 y (List.mem_range'_1.mpr ⟨by omega, by omega⟩)
  by_cases h17 : y < 216
  · exact List.all_eq_true.mp am_okg17 y (List.mem_range'_1.mpr ⟨by omega, by omega⟩)
  by_cases h18 : y < 228
  · exact List.all_eq_true.mp am_okg18 y (List.mem_range'_1.mpr ⟨by omega, by omega⟩)
  by_cases h19 : y < 240
  · exact List.all_eq_true.mp am_okg19 y (List.mem_range'_1.mpr ⟨by omega, by omega⟩)
  by_cases h20 : y < 252
  · exact List.all_eq_true.mp am_okg20 y (List.mem_range'_1.mpr ⟨by omega, by omega⟩)
  by_cases h21 : y < 264
  · exact List.all_eq_true.mp am_okg21 y (List.mem_range'_1.mpr ⟨by omega, by omega⟩)
  by_cases h22 : y < 267
  · exact List.all_eq_true.mp am_okg22 y (List.mem_range'_1.mpr ⟨by omega, by omega⟩)
  omega
