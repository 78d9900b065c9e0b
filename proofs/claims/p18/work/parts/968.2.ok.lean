/-! EVERY METHOD: its rows are what the words link (by the kernel; laid by wip/gen/okg.py). Mine. -/
theorem am_okg163 : (List.range' 163 5).all am_okm = true := by decide +kernel
theorem am_okg168 : (List.range' 168 8).all am_okm = true := by decide +kernel
theorem am_okg176 : (List.range' 176 4).all am_okm = true := by decide +kernel
theorem am_okg180 : (List.range' 180 3).all am_okm = true := by decide +kernel
theorem am_okg183 : (List.range' 183 10).all am_okm = true := by decide +kernel
theorem am_okg193 : (List.range' 193 10).all am_okm = true := by decide +kernel
theorem am_okg203 : (List.range' 203 5).all am_okm = true := by decide +kernel
theorem am_okg208 : (List.range' 208 4).all am_okm = true := by decide +kernel
