/-! EVERY METHOD: its rows are what the words link (by the kernel; laid by wip/gen/fast.py). Mine. -/
theorem am_okg102 : (List.range' 102 30).all (fun m => (am_mth m).all (am_okr3 m)) = true := by decide +kernel
theorem am_okg132 : (List.range' 132 25).all (fun m => (am_mth m).all (am_okr3 m)) = true := by decide +kernel
theorem am_okg157 : (List.range' 157 19).all (fun m => (am_mth m).all (am_okr3 m)) = true := by decide +kernel
