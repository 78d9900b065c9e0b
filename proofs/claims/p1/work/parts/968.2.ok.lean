/-! EVERY METHOD: its rows are what the words link (by the kernel; laid by wip/gen/fast.py). Mine. -/
theorem am_okg176 : (List.range' 176 14).all (fun m => (am_mth m).all (am_okr3 m)) = true := by decide +kernel
theorem am_okg190 : (List.range' 190 19).all (fun m => (am_mth m).all (am_okr3 m)) = true := by decide +kernel
theorem am_okg209 : (List.range' 209 20).all (fun m => (am_mth m).all (am_okr3 m)) = true := by decide +kernel
