/-! THE CHECKS (laid by wip/gen/emit.py). Mine. -/
theorem ck1429_0 : am_grp am_T ce1429 (ch1429.take 3) 0 3 49 ((ch1429.drop 3).take 47) = true := by decide +kernel
theorem ck1429_1 : am_grp am_T ce1429 (ch1429.take 3) 3 1 64 ((ch1429.drop 50).take 62) = true := by decide +kernel
theorem ck1429_2 : am_grp am_T ce1429 (ch1429.take 3) 4 17 143 ((ch1429.drop 112).take 141) = true := by decide +kernel
theorem ck1429_3 : am_grp am_T ce1429 (ch1429.take 3) 21 9 36 ((ch1429.drop 253).take 34) = true := by decide +kernel
theorem cv1429 : am_cov am_T ce1429 (ch1429.take 3) [(0, 3), (3, 1), (4, 17), (21, 9)] = true := by decide +kernel
