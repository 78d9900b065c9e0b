/-! the law's own rows. Mine. -/
set_option maxRecDepth 1000000 in
theorem am_okl0 : (((am_mth 266).drop 0).take 120).all (am_okr 266) = true := by decide +kernel
set_option maxRecDepth 1000000 in
theorem am_okl1 : (((am_mth 266).drop 120).take 120).all (am_okr 266) = true := by decide +kernel
set_option maxRecDepth 1000000 in
theorem am_okl2 : (((am_mth 266).drop 240).take 120).all (am_okr 266) = true := by decide +kernel
set_option maxRecDepth 1000000 in
theorem am_okl3 : (((am_mth 266).drop 360).take 120).all (am_okr 266) = true := by decide +kernel
set_option maxRecDepth 1000000 in
theorem am_okl4 : (((am_mth 266).drop 480).take 120).all (am_okr 266) = true := by decide +kernel
set_option maxRecDepth 1000000 in
theorem am_okl5 : (((am_mth 266).drop 600).take 120).all (am_okr 266) = true := by decide +kernel
set_option maxRecDepth 1000000 in
theorem am_okl6 : (((am_mth 266).drop 720).take 120).all (am_okr 266) = true := by decide +kernel
set_option maxRecDepth 1000000 in
theorem am_okl7 : (((am_mth 266).drop 840).take 120).all (am_okr 266) = true := by decide +kernel
