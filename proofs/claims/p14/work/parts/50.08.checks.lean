/-! THE CHECKS (laid by wip/gen/emit.py). Mine. -/
theorem ck1429_1 : am_grp am_T ce1429 (ch1429.take 3) 3 1 64 ((ch1429.drop 50).take 62) = true := by decide +kernel
theorem ck1429_2 : am_grp am_T ce1429 (ch1429.take 3) 4 17 143 ((ch1429.drop 112).take 141) = true := by decide +kernel
theorem ck1429_3 : am_grp am_T ce1429 (ch1429.take 3) 21 9 36 ((ch1429.drop 253).take 34) = true := by decide +kernel
theorem cv1429 : am_cov am_T ce1429 (ch1429.take 3) [(0, 3), (3, 1), (4, 17), (21, 9)] = true := by decide +kernel
theorem ck1430_0 : am_grp am_T ce1430 (ch1430.take 3) 0 3 49 ((ch1430.drop 3).take 47) = true := by decide +kernel
theorem ck1430_1 : am_grp am_T ce1430 (ch1430.take 3) 3 1 68 ((ch1430.drop 50).take 66) = true := by decide +kernel
theorem ck1430_2 : am_grp am_T ce1430 (ch1430.take 3) 4 17 143 ((ch1430.drop 116).take 141) = true := by decide +kernel
theorem ck1430_3 : am_grp am_T ce1430 (ch1430.take 3) 21 9 36 ((ch1430.drop 257).take 34) = true := by decide +kernel
theorem cv1430 : am_cov am_T ce1430 (ch1430.take 3) [(0, 3), (3, 1), (4, 17), (21, 9)] = true := by decide +kernel
theorem ck1431_0 : am_grp am_T ce1431 (ch1431.take 3) 0 3 49 ((ch1431.drop 3).take 47) = true := by decide +kernel
theorem ck1431_1 : am_grp am_T ce1431 (ch1431.take 3) 3 1 68 ((ch1431.drop 50).take 66) = true := by decide +kernel
theorem ck1431_2 : am_grp am_T ce1431 (ch1431.take 3) 4 17 143 ((ch1431.drop 116).take 141) = true := by decide +kernel
theorem ck1431_3 : am_grp am_T ce1431 (ch1431.take 3) 21 9 36 ((ch1431.drop 257).take 34) = true := by decide +kernel
theorem cv1431 : am_cov am_T ce1431 (ch1431.take 3) [(0, 3), (3, 1), (4, 17), (21, 9)] = true := by decide +kernel
theorem ck1432_0 : am_grp am_T ce1432 (ch1432.take 3) 0 3 60 ((ch1432.drop 3).take 58) = true := by decide +kernel
theorem ck1432_1 : am_grp am_T ce1432 (ch1432.take 3) 3 1 86 ((ch1432.drop 61).take 84) = true := by decide +kernel
theorem ck1432_2 : am_grp am_T ce1432 (ch1432.take 3) 4 17 179 ((ch1432.drop 145).take 177) = true := by decide +kernel
theorem ck1432_3 : am_grp am_T ce1432 (ch1432.take 3) 21 9 45 ((ch1432.drop 322).take 43) = true := by decide +kernel
theorem cv1432 : am_cov am_T ce1432 (ch1432.take 3) [(0, 3), (3, 1), (4, 17), (21, 9)] = true := by decide +kernel
theorem ck1433 : am_one am_T ce1433 5 ch1433 = true := by decide +kernel
