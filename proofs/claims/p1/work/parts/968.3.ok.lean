/-! EVERY METHOD: its rows are what the words link (by the kernel; laid by wip/gen/fast.py). Mine. -/
theorem am_okg229 : (List.range' 229 17).all (fun m => (am_mth m).all (am_okr3 m)) = true := by decide +kernel
theorem am_okg246 : (List.range' 246 15).all (fun m => (am_mth m).all (am_okr3 m)) = true := by decide +kernel
theorem am_okg261 : (List.range' 261 8).all (fun m => (am_mth m).all (am_okr3 m)) = true := by decide +kernel
theorem am_okl269_0 : ((am_mth 269).take 140).all (am_okr 269) = true := am_okq_ok (a := 0) (by decide +kernel)
theorem am_okl269_1 : (((am_mth 269).drop 140).take 140).all (am_okr 269) = true := am_okq_ok (a := 344) (by decide +kernel)
theorem am_okl269_2 : ((((am_mth 269).drop 140).drop 140).take 140).all (am_okr 269) = true := am_okq_ok (a := 564) (by decide +kernel)
theorem am_okl269_3 : (((((am_mth 269).drop 140).drop 140).drop 140).take 140).all (am_okr 269) = true := am_okq_ok (a := 789) (by decide +kernel)
