/-! EVERY METHOD: its rows are what the words link (by the kernel; laid by wip/gen/okg.py). Mine. -/
theorem am_okl269_5 : (((((((am_mth 269).drop 140).drop 140).drop 140).drop 140).drop 140).take 140).all (am_okr 269) = true := by decide +kernel
theorem am_okl269_6 : (((((((am_mth 269).drop 140).drop 140).drop 140).drop 140).drop 140).drop 140).all (am_okr 269) = true := by decide +kernel
theorem am_okg269 : (List.range' 269 1).all am_okm = true := by
  rw [List.all_eq_true]
  intro y hy
  have h := List.mem_range'_1.mp hy
  obtain rfl : y = 269 := by omega
  exact (am_all_td 140 am_okl269_0 (am_all_td 140 am_okl269_1 (am_all_td 140 am_okl269_2 (am_all_td 140 am_okl269_3 (am_all_td 140 am_okl269_4 (am_all_td 140 am_okl269_5 am_okl269_6))))))
theorem am_okm_lt (y : Nat) (h : y < 270) : am_okm y = true := by
  by_cases h0 : y < 13
  · exact List.all_eq_true.mp am_okg0 y (List.mem_range'_1.mpr ⟨by omega, by omega⟩)
  by_cases h1 : y < 23
  · exact List.all_eq_true.mp am_okg13 y (List.mem_range'_1.mpr ⟨by omega, by omega⟩)
  by_cases h2 : y < 40
  · exact List.all_eq_true.mp am_okg23 y (List.mem_range'_1.mpr ⟨by omega, by omega⟩)
  by_cases h3 : y < 50
  · exact List.all_eq_true.mp am_okg40 y (List.mem_range'_1.mpr ⟨by omega, by omega⟩)
  by_cases h4 : y < 67
  · exact List.all_eq_true.mp am_okg50 y (List.mem_range'_1.mpr ⟨by omega, by omega⟩)
  by_cases h5 : y < 76
  · exact List.all_eq_true.mp am_okg67 y (List.mem_range'_1.mpr ⟨by omega, by omega⟩)
  by_cases h6 : y < 87
  · exact List.all_eq_true.mp am_okg76 y (List.mem_range'_1.mpr ⟨by omega, by omega⟩)
  by_cases h7 : y < 100
  · exact List.all_eq_true.mp am_okg87 y (List.mem_range'_1.mpr ⟨by omega, by omega⟩)
  by_cases h8 : y < 113
  · exact List.all_eq_true.mp am_okg100 y (List.mem_range'_1.mpr ⟨by omega, by omega⟩)
  by_cases h9 : y < 123
  · exact List.all_eq_true.mp am_okg113 y (List.mem_range'_1.mpr ⟨by omega, by omega⟩)
  by_cases h10 : y < 132
  · exact List.all_eq_true.mp am_okg123 y (List.mem_range'_1.mpr ⟨by omega, by omega⟩)
  by_cases h11 : y < 141
  · exact List.all_eq_true.mp am_okg132 y (List.mem_range'_1.mpr ⟨by omega, by omega⟩)
  by_cases h12 : y < 146
  · exact List.all_eq_true.mp am_okg141 y (List.mem_range'_1.mpr ⟨by omega, by omega⟩)
  by_cases h13 : y < 156
  · exact List.all_eq_true.mp am_okg146 y (List.mem_range'_1.mpr ⟨by omega, by omega⟩)
  by_cases h14 : y < 163
  · exact List.all_eq_true.mp am_okg156 y (List.mem_range'_1.mpr ⟨by omega, by omega⟩)
  by_cases h15 : y < 168
  · exact List.all_eq_true.mp am_okg163 y (List.mem_range'_1.mpr ⟨by omega, by omega⟩)
  by_cases h16 : y < 176
  · exact List.all_eq_true.mp am_okg168 y (List.mem_range'_1.mpr ⟨by omega, by omega⟩)
  by_cases h17 : y < 180
  · exact List.all_eq_true.mp am_okg176 y (List.mem_range'_1.mpr ⟨by omega, by omega⟩)
  by_cases h18 : y < 183
  · exact List.all_eq_true.mp am_okg180 y (List.mem_range'_1.mpr ⟨by omega, by omega⟩)
  by_cases h19 : y < 193
  · exact List.all_eq_true.mp am_okg183 y (List.mem_range'_1.mpr ⟨by omega, by omega⟩)
  by_cases h20 : y < 203
  · exact List.all_eq_true.mp am_okg193 y (List.mem_range'_1.mpr ⟨by omega, by omega⟩)
  by_cases h21 : y < 208
  · exact List.all_eq_true.mp am_okg203 y (List.mem_range'_1.mpr ⟨by omega, by omega⟩)
  by_cases h22 : y < 212
  · exact List.all_eq_true.mp am_okg208 y (List.mem_range'_1.mpr ⟨by omega, by omega⟩)
  by_cases h23 : y < 218
  · exact List.all_eq_true.mp am_okg212 y (List.mem_range'_1.mpr ⟨by omega, by omega⟩)
  by_cases h24 : y < 229
  · exact List.all_eq_true.mp am_okg218 y (List.mem_range'_1.mpr ⟨by omega, by omega⟩)
  by_cases h25 : y < 239
  · exact List.all_eq_true.mp am_okg229 y (List.mem_range'_1.mpr ⟨by omega, by omega⟩)
  by_cases h26 : y < 244
  · exact List.all_eq_true.mp am_okg239 y (List.mem_range'_1.mpr ⟨by omega, by omega⟩)
  by_cases h27 : y < 247
  · exact List.all_eq_true.mp am_okg244 y (List.mem_range'_1.mpr ⟨by omega, by omega⟩)
  by_cases h28 : y < 256
  · exact List.all_eq_true.mp am_okg247 y (List.mem_range'_1.mpr ⟨by omega, by omega⟩)
  by_cases h29 : y < 261
  · exact List.all_eq_true.mp am_okg256 y (List.mem_range'_1.mpr ⟨by omega, by omega⟩)
  by_cases h30 : y < 264
  · exact List.all_eq_true.mp am_okg261 y (List.mem_range'_1.mpr ⟨by omega, by omega⟩)
  by_cases h31 : y < 267
  · exact List.all_eq_true.mp am_okg264 y (List.mem_range'_1.mpr ⟨by omega, by omega⟩)
  by_cases h32 : y < 269
  · exact List.all_eq_true.mp am_okg267 y (List.mem_range'_1.mpr ⟨by omega, by omega⟩)
  by_cases h33 : y < 270
  · exact List.all_eq_true.mp am_okg269 y (List.mem_range'_1.mpr ⟨by omega, by omega⟩)
  omega
