/-! EVERY METHOD: its rows are what the words link (by the kernel; laid by wip/gen/okg.py). Mine. -/
theorem am_okg87 : (List.range' 87 13).all am_okm = true := by decide +kernel
theorem am_okg100 : (List.range' 100 13).all am_okm = true := by decide +kernel
theorem am_okg113 : (List.range' 113 10).all am_okm = true := by decide +kernel
theorem am_okg123 : (List.range' 123 9).all am_okm = true := by decide +kernel
theorem am_okg132 : (List.range' 132 9).all am_okm = true := by decide +kernel
theorem am_okg141 : (List.range' 141 5).all am_okm = true := by decide +kernel
theorem am_okg146 : (List.range' 146 10).all am_okm = true := by decide +kernel
theorem am_okg156 : (List.range' 156 7).all am_okm = true := by decide +kernel
