/-! THE CHECKS (laid by wip/gen/emit.py). Mine. -/
theorem ck1432 : am_one am_T ce1432 367 ch1432 = true := by decide +kernel
theorem ck1433 : am_one am_T ce1433 5 ch1433 = true := by decide +kernel
