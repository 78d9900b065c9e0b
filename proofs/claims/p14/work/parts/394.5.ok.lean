/-! EVERY METHOD: its rows are what the words link (by the kernel; laid by wip/gen/okg.py). Mine. -/
theorem am_okl266_1 : (((am_mth 266).drop 140).take 140).all (am_okr 266) = true := by decide +kernel
theorem am_okl266_2 : ((((am_mth 266).drop 140).drop 140).take 140).all (am_okr 266) = true := by decide +kernel
