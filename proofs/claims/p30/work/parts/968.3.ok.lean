/-! EVERY METHOD: its rows are what the words link (by the kernel; laid by wip/gen/fast.py). Mine. -/
theorem am_okg229 : (List.range' 229 17).all (fun m => (am_mth m).all (am_okr3 m)) = true := by decide +kernel
theorem am_okg246 : (List.range' 246 15).all (fun m => (am_mth m).all (am_okr3 m)) = true := by decide +kernel
theorem am_okg261 : (List.range' 261 5).all (fun m => (am_mth m).all (am_okr3 m)) = true := by decide +kernel
theorem am_okl266_0 : ((am_mth 266).take 140).all (am_okr 266) = true := am_okq_ok (a := 0) (by decide +kernel)
theorem am_okl266_1 : (((am_mth 266).drop 140).take 140).all (am_okr 266) = true := am_okq_ok (a := 335) (by decide +kernel)
theorem am_okl266_2 : ((((am_mth 266).drop 140).drop 140).take 140).all (am_okr 266) = true := am_okq_ok (a := 546) (by decide +kernel)
theorem am_okl266_3 : (((((am_mth 266).drop 140).drop 140).drop 140).take 140).all (am_okr 266) = true := am_okq_ok (a := 760) (by decide +kernel)
