/-! EVERY METHOD: its rows are what the words link (by the kernel; laid by wip/gen/okg.py). Mine. -/
theorem am_okg212 : (List.range' 212 6).all am_okm = true := by decide +kernel
theorem am_okg218 : (List.range' 218 11).all am_okm = true := by decide +kernel
theorem am_okg229 : (List.range' 229 10).all am_okm = true := by decide +kernel
theorem am_okg239 : (List.range' 239 5).all am_okm = true := by decide +kernel
theorem am_okg244 : (List.range' 244 3).all am_okm = true := by decide +kernel
theorem am_okg247 : (List.range' 247 9).all am_okm = true := by decide +kernel
theorem am_okg256 : (List.range' 256 5).all am_okm = true := by decide +kernel
