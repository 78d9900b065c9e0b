/-! EVERY METHOD: its rows are what the words link (by the kernel; laid by wip/gen/okg.py). Mine. -/
theorem am_okg261 : (List.range' 261 3).all am_okm = true := by decide +kernel
theorem am_okg264 : (List.range' 264 3).all am_okm = true := by decide +kernel
theorem am_okg267 : (List.range' 267 2).all am_okm = true := by decide +kernel
theorem am_okl269_0 : ((am_mth 269).take 140).all (am_okr 269) = true := by decide +kernel
