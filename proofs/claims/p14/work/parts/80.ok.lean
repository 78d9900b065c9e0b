/-! THE LINKS HOLD: every row of the tables, by the kernel. Mine. -/
set_option maxRecDepth 1000000 in
theorem am_okc0 : (List.range' 0 21).all am_okm = true := by decide +kernel
set_option maxRecDepth 1000000 in
theorem am_okc1 : (List.range' 21 26).all am_okm = true := by decide +kernel
set_option maxRecDepth 1000000 in
theorem am_okc2 : (List.range' 47 22).all am_okm = true := by decide +kernel
set_option maxRecDepth 1000000 in
theorem am_okc3 : (List.range' 69 18).all am_okm = true := by decide +kernel
set_option maxRecDepth 1000000 in
theorem am_okc4 : (List.range' 87 21).all am_okm = true := by decide +kernel
set_option maxRecDepth 1000000 in
theorem am_okc5 : (List.range' 108 20).all am_okm = true := by decide +kernel
set_option maxRecDepth 1000000 in
theorem am_okc6 : (List.range' 128 15).all am_okm = true := by decide +kernel
set_option maxRecDepth 1000000 in
theorem am_okc7 : (List.range' 143 15).all am_okm = true := by decide +kernel
set_option maxRecDepth 1000000 in
theorem am_okc8 : (List.range' 158 11).all am_okm = true := by decide +kernel
set_option maxRecDepth 1000000 in
theorem am_okc9 : (List.range' 169 11).all am_okm = true := by decide +kernel
set_option maxRecDepth 1000000 in
theorem am_okc10 : (List.range' 180 7).all am_okm = true := by decide +kernel
set_option maxRecDepth 1000000 in
theorem am_okc11 : (List.range' 187 19).all am_okm = true := by decide +kernel
set_option maxRecDepth 1000000 in
theorem am_okc12 : (List.range' 206 6).all am_okm = true := by decide +kernel
set_option maxRecDepth 1000000 in
theorem am_okc13 : (List.range' 212 14).all am_okm = true := by decide +kernel
set_option maxRecDepth 1000000 in
theorem am_okc14 : (List.range' 226 15).all am_okm = true := by decide +kernel
set_option maxRecDepth 1000000 in
theorem am_okc15 : (List.range' 241 7).all am_okm = true := by decide +kernel
set_option maxRecDepth 1000000 in
theorem am_okc16 : (List.range' 248 13).all am_okm = true := by decide +kernel
set_option maxRecDepth 1000000 in
theorem am_okc17 : (List.range' 261 5).all am_okm = true := by decide +kernel
