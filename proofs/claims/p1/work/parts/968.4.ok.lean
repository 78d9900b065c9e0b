/-! EVERY METHOD: its rows are what the words link (by the kernel; laid by wip/gen/fast.py). Mine. -/
theorem am_okl269_4 : ((((((am_mth 269).drop 140).drop 140).drop 140).drop 140).take 140).all (am_okr 269) = true := am_okq_ok (a := 1022) (by decide +kernel)
theorem am_okl269_5 : (((((((am_mth 269).drop 140).drop 140).drop 140).drop 140).drop 140).take 140).all (am_okr 269) = true := am_okq_ok (a := 1243) (by decide +kernel)
theorem am_okl269_6 : ((((((((am_mth 269).drop 140).drop 140).drop 140).drop 140).drop 140).drop 140).take 140).all (am_okr 269) = true := am_okq_ok (a := 1469) (by decide +kernel)
theorem am_okl269_7 : (((((((((am_mth 269).drop 140).drop 140).drop 140).drop 140).drop 140).drop 140).drop 140).take 140).all (am_okr 269) = true := am_okq_ok (a := 1690) (by decide +kernel)
theorem am_okl269_8 : ((((((((((am_mth 269).drop 140).drop 140).drop 140).drop 140).drop 140).drop 140).drop 140).drop 140).take 140).all (am_okr 269) = true := am_okq_ok (a := 1914) (by decide +kernel)
theorem am_okl269_9 : ((((((((((am_mth 269).drop 140).drop 140).drop 140).drop 140).drop 140).drop 140).drop 140).drop 140).drop 140).all (am_okr 269) = true := am_okq_ok (a := 2138) (by decide +kernel)
theorem am_okg269 : (List.range' 269 1).all am_okm = true := by
  rw [List.all_eq_true]
  intro y hy
  have h := List.mem_range'_1.mp hy
  obtain rfl : y = 269 := by omega
  exact (am_all_td 140 am_okl269_0 (am_all_td 140 am_okl269_1 (am_all_td 140 am_okl269_2 (am_all_td 140 am_okl269_3 (am_all_td 140 am_okl269_4 (am_all_td 140 am_okl269_5 (am_all_td 140 am_okl269_6 (am_all_td 140 am_okl269_7 (am_all_td 140 am_okl269_8 am_okl269_9)))))))))
theorem am_okm_lt (y : Nat) (h : y < 270) : am_okm y = true := by
  by_cases h0 : y < 37
  · exact am_all3 (List.all_eq_true.mp am_okg0 y (List.mem_range'_1.mpr ⟨by omega, by omega⟩))
  by_cases h1 : y < 71
  · exact am_all3 (List.all_eq_true.mp am_okg37 y (List.mem_range'_1.mpr ⟨by omega, by omega⟩))
  by_cases h2 : y < 102
  · exact am_all3 (List.all_eq_true.mp am_okg71 y (List.mem_range'_1.mpr ⟨by omega, by omega⟩))
  by_cases h3 : y < 132
  · exact am_all3 (List.all_eq_true.mp am_okg102 y (List.mem_range'_1.mpr ⟨by omega, by omega⟩))
  by_cases h4 : y < 157
  · exact am_all3 (List.all_eq_true.mp am_okg132 y (List.mem_range'_1.mpr ⟨by omega, by omega⟩))
  by_cases h5 : y < 176
  · exact am_all3 (List.all_eq_true.mp am_okg157 y (List.mem_range'_1.mpr ⟨by omega, by omega⟩))
  by_cases h6 : y < 190
  · exact am_all3 (List.all_eq_true.mp am_okg176 y (List.mem_range'_1.mpr ⟨by omega, by omega⟩))
  by_cases h7 : y < 209
  · exact am_all3 (List.all_eq_true.mp am_okg190 y (List.mem_range'_1.mpr ⟨by omega, by omega⟩))
  by_cases h8 : y < 229
  · exact am_all3 (List.all_eq_true.mp am_okg209 y (List.mem_range'_1.mpr ⟨by omega, by omega⟩))
  by_cases h9 : y < 246
  · exact am_all3 (List.all_eq_true.mp am_okg229 y (List.mem_range'_1.mpr ⟨by omega, by omega⟩))
  by_cases h10 : y < 261
  · exact am_all3 (List.all_eq_true.mp am_okg246 y (List.mem_range'_1.mpr ⟨by omega, by omega⟩))
  by_cases h11 : y < 269
  · exact am_all3 (List.all_eq_true.mp am_okg261 y (List.mem_range'_1.mpr ⟨by omega, by omega⟩))
  by_cases h12 : y < 270
  · exact List.all_eq_true.mp am_okg269 y (List.mem_range'_1.mpr ⟨by omega, by omega⟩)
  omega
