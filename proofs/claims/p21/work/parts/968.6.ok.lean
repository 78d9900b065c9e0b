/-! EVERY METHOD: its rows are what the words link (by the kernel; laid by wip/gen/okg.py). Mine. -/
theorem am_okl267_3 : (((((am_mth 267).drop 140).drop 140).drop 140).take 140).all (am_okr 267) = true := by decide +kernel
theorem am_okl267_4 : ((((((am_mth 267).drop 140).drop 140).drop 140).drop 140).take 140).all (am_okr 267) = true := by decide +kernel
