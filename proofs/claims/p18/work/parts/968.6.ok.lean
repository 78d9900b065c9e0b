/-! EVERY METHOD: its rows are what the words link (by the kernel; laid by wip/gen/okg.py). Mine. -/
theorem am_okl269_3 : (((((am_mth 269).drop 140).drop 140).drop 140).take 140).all (am_okr 269) = true := by decide +kernel
theorem am_okl269_4 : ((((((am_mth 269).drop 140).drop 140).drop 140).drop 140).take 140).all (am_okr 269) = true := by decide +kernel
