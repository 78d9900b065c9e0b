/-! RULES, on. Mine. -/
theorem bk265_260 {w : am_Wd} {l0 : Nat} {l3 : Nat} {l4 : Nat} {s0 : Int32} {s1 : Int64} : am_run 265 260 [some (.ref l0), none, none, some (.ref l3), some (.ref l4), none, none] [.int s0, .long s1] w = (am_kf w l0 11).bind fun _ => (am_x 49 [.ref l0, .ref l4] w).bind fun r => bct r fun v w' => am_run 265 277 [some (.ref l0), none, none, some (.ref l3), some (.ref l4), none, none] (v.toList ++ [.double (4634204016564240384 : UInt64), .long ((s1 + (Int32.toInt64 s0)) * (lN 31))]) w' := by
  refine (bu (ls'' := [some (.ref l0), none, none, some (.ref l3), some (.ref l4), none, none]) (st' := [.long (Int32.toInt64 s0), .long s1]) bf265_260 bf265_261 rfl rfl).trans ?_
  refine (bu (ls'' := [some (.ref l0), none, none, some (.ref l3), some (.ref l4), none, none]) (st' := [.long (s1 + (Int32.toInt64 s0))]) bf265_261 bf265_262 rfl rfl).trans ?_
  refine (bu (ls'' := [some (.ref l0), some (.long (s1 + (Int32.toInt64 s0))), none, some (.ref l3), some (.ref l4), none, none]) (st' := []) bf265_262 bf265_263 rfl rfl).trans ?_
  refine (bu (ls'' := [some (.ref l0), none, none, some (.ref l3), some (.ref l4), none, none]) (st' := [.long (s1 + (Int32.toInt64 s0))]) bf265_263 bf265_264 rfl rfl).trans ?_
  refine (bu (ls'' := [some (.ref l0), none, none, some (.ref l3), some (.ref l4), none, none]) (st' := [.long (lN 31), .long (s1 + (Int32.toInt64 s0))]) bf265_264 bf265_267 rfl rfl).trans ?_
  refine (bu (ls'' := [some (.ref l0), none, none, some (.ref l3), some (.ref l4), none, none]) (st' := [.long ((s1 + (Int32.toInt64 s0)) * (lN 31))]) bf265_267 bf265_268 rfl rfl).trans ?_
  refine (bu (ls'' := [some (.ref l0), none, none, some (.ref l3), some (.ref l4), none, none]) (st' := [.double (4634204016564240384 : UInt64), .long ((s1 + (Int32.toInt64 s0)) * (lN 31))]) bf265_268 bf265_271 rfl rfl).trans ?_
  refine (bu (ls'' := [some (.ref l0), none, none, some (.ref l3), some (.ref l4), none, none]) (st' := [.ref l0, .double (4634204016564240384 : UInt64), .long ((s1 + (Int32.toInt64 s0)) * (lN 31))]) bf265_271 bf265_272 rfl rfl).trans ?_
  refine (bu (ls'' := [some (.ref l0), none, none, some (.ref l3), some (.ref l4), none, none]) (st' := [.ref l4, .ref l0, .double (4634204016564240384 : UInt64), .long ((s1 + (Int32.toInt64 s0)) * (lN 31))]) bf265_272 bf265_274 rfl rfl).trans ?_
  exact bkV bf265_274 bf265_277 rfl (by decide +kernel) (Nat.le_of_ble_eq_true rfl) rfl (bhd rfl)
theorem bk265_240 {w : am_Wd} {l0 : Nat} {l3 : Nat} {l4 : Nat} {l5 : Int32} {s0 : Int32} {s1 : Int64} : am_run 265 240 [some (.ref l0), none, none, some (.ref l3), some (.ref l4), some (.int l5), none] [.int s0, .long s1] w = am_run 265 221 [some (.ref l0), some (.long (s1 + (Int32.toInt64 s0))), none, some (.ref l3), some (.ref l4), some (.int (l5 + (nI 1))), none] [] w := by
  refine (bu (ls'' := [some (.ref l0), none, none, some (.ref l3), some (.ref l4), some (.int l5), none]) (st' := [.long (Int32.toInt64 s0), .long s1]) bf265_240 bf265_241 rfl rfl).trans ?_
  refine (bu (ls'' := [some (.ref l0), none, none, some (.ref l3), some (.ref l4), some (.int l5), none]) (st' := [.long (s1 + (Int32.toInt64 s0))]) bf265_241 bf265_242 rfl rfl).trans ?_
  refine (bu (ls'' := [some (.ref l0), some (.long (s1 + (Int32.toInt64 s0))), none, some (.ref l3), some (.ref l4), some (.int l5), none]) (st' := []) bf265_242 bf265_243 rfl rfl).trans ?_
  refine (bu (ls'' := [some (.ref l0), some (.long (s1 + (Int32.toInt64 s0))), none, some (.ref l3), some (.ref l4), some (.int (l5 + (nI 1))), none]) (st' := []) bf265_243 bf265_246 rfl rfl).trans ?_
  refine (bu (ls'' := [some (.ref l0), some (.long (s1 + (Int32.toInt64 s0))), none, some (.ref l3), some (.ref l4), some (.int (l5 + (nI 1))), none]) (st' := []) bf265_246 bf265_221 rfl rfl).trans ?_
  rfl
theorem bk265_277 {w : am_Wd} {l0 : Nat} {l3 : Nat} {l4 : Nat} {s0 : UInt64} {s1 : UInt64} {s2 : Int64} (hn : (FP.dmul s1 s0) &&& 0x7fffffffffffffff ≤ 0x7ff0000000000000) : am_run 265 277 [some (.ref l0), none, none, some (.ref l3), some (.ref l4), none, none] [.double s0, .double s1, .long s2] w = am_run 265 278 [some (.ref l0), none, none, some (.ref l3), some (.ref l4), none, none] [.double (FP.dmul s1 s0), .long s2] w := by
  exact bdd (h := inferInstance) bf265_277 bf265_278 (fun h => by unfold am_stp; exact if_pos h) rfl hn
theorem bk265_278 {w : am_Wd} {l0 : Nat} {l3 : Nat} {l4 : Nat} {s0 : UInt64} {s1 : Int64} : am_run 265 278 [some (.ref l0), none, none, some (.ref l3), some (.ref l4), none, none] [.double s0, .long s1] w = am_run 265 284 [some (.ref l0), some (.long (s1 + (FP.d2l s0))), none, some (.ref l3), some (.ref l4), some (.int (nI 0)), none] [] w := by
  refine (bu (ls'' := [some (.ref l0), none, none, some (.ref l3), some (.ref l4), none, none]) (st' := [.long (FP.d2l s0), .long s1]) bf265_278 bf265_279 rfl rfl).trans ?_
  refine (bu (ls'' := [some (.ref l0), none, none, some (.ref l3), some (.ref l4), none, none]) (st' := [.long (s1 + (FP.d2l s0))]) bf265_279 bf265_280 rfl rfl).trans ?_
  refine (bu (ls'' := [some (.ref l0), some (.long (s1 + (FP.d2l s0))), none, some (.ref l3), some (.ref l4), none, none]) (st' := []) bf265_280 bf265_281 rfl rfl).trans ?_
  refine (bu (ls'' := [some (.ref l0), some (.long (s1 + (FP.d2l s0))), none, some (.ref l3), some (.ref l4), none, none]) (st' := [.int (nI 0)]) bf265_281 bf265_282 rfl rfl).trans ?_
  refine (bu (ls'' := [some (.ref l0), some (.long (s1 + (FP.d2l s0))), none, some (.ref l3), some (.ref l4), some (.int (nI 0)), none]) (st' := []) bf265_282 bf265_284 rfl rfl).trans ?_
  rfl
theorem bk265_284 {w : am_Wd} {l0 : Nat} {l1 : Int64} {l3 : Nat} {l4 : Nat} {l5 : Int32} : am_run 265 284 [some (.ref l0), some (.long l1), none, some (.ref l3), some (.ref l4), some (.int l5), none] [] w = if (nI 36) ≤ l5 then am_run 265 329 [some (.ref l0), some (.long l1), none, some (.ref l3), none, none, none] [] w else am_run 265 291 [some (.ref l0), some (.long l1), none, some (.ref l3), some (.ref l4), some (.int l5), none] [] w := by
  refine (bu (ls'' := [some (.ref l0), some (.long l1), none, some (.ref l3), some (.ref l4), some (.int l5), none]) (st' := [.int l5]) bf265_284 bf265_286 rfl rfl).trans ?_
  refine (bu (ls'' := [some (.ref l0), some (.long l1), none, some (.ref l3), some (.ref l4), some (.int l5), none]) (st' := [.int (nI 36), .int l5]) bf265_286 bf265_288 rfl rfl).trans ?_
  exact bic bf265_288 rfl bf265_329 bf265_291 rfl rfl rfl
theorem bk265_329 {w : am_Wd} {l0 : Nat} {l1 : Int64} {l3 : Nat} : am_run 265 329 [some (.ref l0), some (.long l1), none, some (.ref l3), none, none, none] [] w = am_run 265 105 [some (.ref l0), some (.long l1), none, some (.ref l3), none, none, none] [] w := by
  refine (bu (ls'' := [some (.ref l0), some (.long l1), none, some (.ref l3), none, none, none]) (st' := []) bf265_329 bf265_105 rfl rfl).trans ?_
  rfl
theorem bk265_291 {w : am_Wd} {l0 : Nat} {l1 : Int64} {l3 : Nat} {l4 : Nat} {l5 : Int32} : am_run 265 291 [some (.ref l0), some (.long l1), none, some (.ref l3), some (.ref l4), some (.int l5), none] [] w = am_run 265 294 [some (.ref l0), some (.long l1), none, some (.ref l3), some (.ref l4), some (.int l5), some (.int (nI 1))] [] w := by
  refine (bu (ls'' := [some (.ref l0), some (.long l1), none, some (.ref l3), some (.ref l4), some (.int l5), none]) (st' := [.int (nI 1)]) bf265_291 bf265_292 rfl rfl).trans ?_
  refine (bu (ls'' := [some (.ref l0), some (.long l1), none, some (.ref l3), some (.ref l4), some (.int l5), some (.int (nI 1))]) (st' := []) bf265_292 bf265_294 rfl rfl).trans ?_
  rfl
theorem bk265_294 {w : am_Wd} {l0 : Nat} {l1 : Int64} {l3 : Nat} {l4 : Nat} {l5 : Int32} {l6 : Int32} : am_run 265 294 [some (.ref l0), some (.long l1), none, some (.ref l3), some (.ref l4), some (.int l5), some (.int l6)] [] w = if (nI 2) < l6 then am_run 265 323 [some (.ref l0), some (.long l1), none, some (.ref l3), some (.ref l4), some (.int l5), none] [] w else am_run 265 300 [some (.ref l0), some (.long l1), none, some (.ref l3), some (.ref l4), some (.int l5), some (.int l6)] [] w := by
  refine (bu (ls'' := [some (.ref l0), some (.long l1), none, some (.ref l3), some (.ref l4), some (.int l5), some (.int l6)]) (st' := [.int l6]) bf265_294 bf265_296 rfl rfl).trans ?_
  refine (bu (ls'' := [some (.ref l0), some (.long l1), none, some (.ref l3), some (.ref l4), some (.int l5), some (.int l6)]) (st' := [.int (nI 2), .int l6]) bf265_296 bf265_297 rfl rfl).trans ?_
  exact bic bf265_297 rfl bf265_323 bf265_300 rfl rfl rfl
theorem bk265_323 {w : am_Wd} {l0 : Nat} {l1 : Int64} {l3 : Nat} {l4 : Nat} {l5 : Int32} : am_run 265 323 [some (.ref l0), some (.long l1), none, some (.ref l3), some (.ref l4), some (.int l5), none] [] w = am_run 265 284 [some (.ref l0), some (.long l1), none, some (.ref l3), some (.ref l4), some (.int (l5 + (nI 1))), none] [] w := by
  refine (bu (ls'' := [some (.ref l0), some (.long l1), none, some (.ref l3), some (.ref l4), some (.int (l5 + (nI 1))), none]) (st' := []) bf265_323 bf265_326 rfl rfl).trans ?_
  refine (bu (ls'' := [some (.ref l0), some (.long l1), none, some (.ref l3), some (.ref l4), some (.int (l5 + (nI 1))), none]) (st' := []) bf265_326 bf265_284 rfl rfl).trans ?_
  rfl
theorem bk265_300 {w : am_Wd} {l0 : Nat} {l1 : Int64} {l3 : Nat} {l4 : Nat} {l5 : Int32} {l6 : Int32} : am_run 265 300 [some (.ref l0), some (.long l1), none, some (.ref l3), some (.ref l4), some (.int l5), some (.int l6)] [] w = (am_x 174 [.ref l4, .int l5, .int l6] w).bind fun r => bct r fun v w' => am_run 265 314 [some (.ref l0), none, none, some (.ref l3), some (.ref l4), some (.int l5), some (.int l6)] (v.toList ++ [.long (l1 * (lN 31))]) w' := by
  refine (bu (ls'' := [some (.ref l0), none, none, some (.ref l3), some (.ref l4), some (.int l5), some (.int l6)]) (st' := [.long l1]) bf265_300 bf265_301 rfl rfl).trans ?_
  refine (bu (ls'' := [some (.ref l0), none, none, some (.ref l3), some (.ref l4), some (.int l5), some (.int l6)]) (st' := [.long (lN 31), .long l1]) bf265_301 bf265_304 rfl rfl).trans ?_
  refine (bu (ls'' := [some (.ref l0), none, none, some (.ref l3), some (.ref l4), some (.int l5), some (.int l6)]) (st' := [.long (l1 * (lN 31))]) bf265_304 bf265_305 rfl rfl).trans ?_
  refine (bu (ls'' := [some (.ref l0), none, none, some (.ref l3), some (.ref l4), some (.int l5), some (.int l6)]) (st' := [.ref l4, .long (l1 * (lN 31))]) bf265_305 bf265_307 rfl rfl).trans ?_
  refine (bu (ls'' := [some (.ref l0), none, none, some (.ref l3), some (.ref l4), some (.int l5), some (.int l6)]) (st' := [.int l5, .ref l4, .long (l1 * (lN 31))]) bf265_307 bf265_309 rfl rfl).trans ?_
  refine (bu (ls'' := [some (.ref l0), none, none, some (.ref l3), some (.ref l4), some (.int l5), some (.int l6)]) (st' := [.int l6, .int l5, .ref l4, .long (l1 * (lN 31))]) bf265_309 bf265_311 rfl rfl).trans ?_
  exact bkS bf265_311 bf265_314 rfl (by decide +kernel) (Nat.le_of_ble_eq_true rfl) rfl (bhd rfl)
theorem bk265_314 {w : am_Wd} {l0 : Nat} {l3 : Nat} {l4 : Nat} {l5 : Int32} {l6 : Int32} {s0 : Int32} {s1 : Int64} : am_run 265 314 [some (.ref l0), none, none, some (.ref l3), some (.ref l4), some (.int l5), some (.int l6)] [.int s0, .long s1] w = am_run 265 294 [some (.ref l0), some (.long (s1 + (Int32.toInt64 s0))), none, some (.ref l3), some (.ref l4), some (.int l5), some (.int (l6 + (nI 1)))] [] w := by
  refine (bu (ls'' := [some (.ref l0), none, none, some (.ref l3), some (.ref l4), some (.int l5), some (.int l6)]) (st' := [.long (Int32.toInt64 s0), .long s1]) bf265_314 bf265_315 rfl rfl).trans ?_
  refine (bu (ls'' := [some (.ref l0), none, none, some (.ref l3), some (.ref l4), some (.int l5), some (.int l6)]) (st' := [.long (s1 + (Int32.toInt64 s0))]) bf265_315 bf265_316 rfl rfl).trans ?_
  refine (bu (ls'' := [some (.ref l0), some (.long (s1 + (Int32.toInt64 s0))), none, some (.ref l3), some (.ref l4), some (.int l5), some (.int l6)]) (st' := []) bf265_316 bf265_317 rfl rfl).trans ?_
  refine (bu (ls'' := [some (.ref l0), some (.long (s1 + (Int32.toInt64 s0))), none, some (.ref l3), some (.ref l4), some (.int l5), some (.int (l6 + (nI 1)))]) (st' := []) bf265_317 bf265_320 rfl rfl).trans ?_
  refine (bu (ls'' := [some (.ref l0), some (.long (s1 + (Int32.toInt64 s0))), none, some (.ref l3), some (.ref l4), some (.int l5), some (.int (l6 + (nI 1)))]) (st' := []) bf265_320 bf265_294 rfl rfl).trans ?_
  rfl
theorem bf266_0 : am_fetch (am_mth 266) 0 = some (.new 8, 3, [0, 8, 9, 79, 80, 46], [1, 2, 3, 4, 5, 6, 7]) := by decide +kernel
theorem bf266_3 : am_fetch (am_mth 266) 3 = some (.dup, 1, [], [1, 2, 3, 4, 5, 6, 7]) := by decide +kernel
theorem bf266_4 : am_fetch (am_mth 266) 4 = some (.invokespecial 119, 3, [0, 89, 0, 81, 82, 46], [1, 2, 3, 4, 5, 6, 7]) := by decide +kernel
theorem bf266_7 : am_fetch (am_mth 266) 7 = some (.astore_n 1, 1, [], [1, 2, 3, 4, 5, 6, 7]) := by decide +kernel
theorem bf266_8 : am_fetch (am_mth 266) 8 = some (.new 120, 3, [0, 11, 12, 1159, 1160, 48], [2, 3, 4, 5, 6, 7]) := by decide +kernel
theorem bf266_11 : am_fetch (am_mth 266) 11 = some (.dup, 1, [], [2, 3, 4, 5, 6, 7]) := by decide +kernel
theorem bf266_12 : am_fetch (am_mth 266) 12 = some (.invokespecial 122, 3, [0, 172, 0, 1161, 1162, 48], [2, 3, 4, 5, 6, 7]) := by decide +kernel
theorem bf266_15 : am_fetch (am_mth 266) 15 = some (.astore_n 2, 1, [], [2, 3, 4, 5, 6, 7]) := by decide +kernel
theorem bf266_16 : am_fetch (am_mth 266) 16 = some (.new 14, 3, [0, 9, 3, 479, 480, 52], [3, 4, 5, 6, 7]) := by decide +kernel
theorem bf266_19 : am_fetch (am_mth 266) 19 = some (.dup, 1, [], [3, 4, 5, 6, 7]) := by decide +kernel
theorem bf266_20 : am_fetch (am_mth 266) 20 = some (.invokespecial 123, 3, [0, 35, 0, 481, 482, 52], [3, 4, 5, 6, 7]) := by decide +kernel
theorem bf266_23 : am_fetch (am_mth 266) 23 = some (.astore_n 3, 1, [], [3, 4, 5, 6, 7]) := by decide +kernel
theorem bf266_24 : am_fetch (am_mth 266) 24 = some (.iconst 0, 1, [], [4, 5, 6, 7]) := by decide +kernel
theorem bf266_25 : am_fetch (am_mth 266) 25 = some (.istore 4, 2, [], [4, 5, 6, 7]) := by decide +kernel
theorem bf266_27 : am_fetch (am_mth 266) 27 = some (.iload 4, 2, [], [5, 6, 7]) := by decide +kernel
theorem bf266_29 : am_fetch (am_mth 266) 29 = some (.aload_n 0, 1, [], [5, 6, 7]) := by decide +kernel
theorem bf266_30 : am_fetch (am_mth 266) 30 = some (.arraylength, 1, [], [5, 6, 7]) := by decide +kernel
theorem bf266_31 : am_fetch (am_mth 266) 31 = some (.iconst 5, 1, [], [5, 6, 7]) := by decide +kernel
theorem bf266_32 : am_fetch (am_mth 266) 32 = some (.isub, 1, [], [5, 6, 7]) := by decide +kernel
theorem bf266_33 : am_fetch (am_mth 266) 33 = some (.if_icmp .gt 1377, 3, [], [5, 6, 7]) := by decide +kernel
theorem bf266_36 : am_fetch (am_mth 266) 36 = some (.aload_n 0, 1, [], [5, 6, 7]) := by decide +kernel
theorem bf266_37 : am_fetch (am_mth 266) 37 = some (.iload 4, 2, [], [5, 6, 7]) := by decide +kernel
theorem bf266_39 : am_fetch (am_mth 266) 39 = some (.iaload, 1, [], [5, 6, 7]) := by decide +kernel
theorem bf266_40 : am_fetch (am_mth 266) 40 = some (.bipush 31, 2, [], [5, 6, 7]) := by decide +kernel
theorem bf266_42 : am_fetch (am_mth 266) 42 = some (.iand, 1, [], [5, 6, 7]) := by decide +kernel
theorem bf266_43 : am_fetch (am_mth 266) 43 = some (.tableswitch 1361 0 28 #[129, 193, 221, 305, 385, 441, 525, 581, 637, 677, 705, 745, 773, 786, 838, 878, 906, 934, 986, 1026, 1066, 1118, 1158, 1186, 1226, 1254, 1294, 1334, 1347], 129, [], [5, 6, 7]) := by decide +kernel
theorem bf266_172 : am_fetch (am_mth 266) 172 = some (.aload_n 1, 1, [], [5, 6, 7]) := by decide +kernel
theorem bf266_173 : am_fetch (am_mth 266) 173 = some (.aload_n 0, 1, [], [5, 6, 7]) := by decide +kernel
theorem bf266_174 : am_fetch (am_mth 266) 174 = some (.iload 4, 2, [], [5, 6, 7]) := by decide +kernel
theorem bf266_176 : am_fetch (am_mth 266) 176 = some (.iconst 1, 1, [], [5, 6, 7]) := by decide +kernel
theorem bf266_177 : am_fetch (am_mth 266) 177 = some (.iadd, 1, [], [5, 6, 7]) := by decide +kernel
theorem bf266_178 : am_fetch (am_mth 266) 178 = some (.iaload, 1, [], [5, 6, 7]) := by decide +kernel
theorem bf266_179 : am_fetch (am_mth 266) 179 = some (.aload_n 0, 1, [], [5, 6, 7]) := by decide +kernel
theorem bf266_180 : am_fetch (am_mth 266) 180 = some (.iload 4, 2, [], [5, 6, 7]) := by decide +kernel
theorem bf266_182 : am_fetch (am_mth 266) 182 = some (.iconst 2, 1, [], [5, 6, 7]) := by decide +kernel
theorem bf266_183 : am_fetch (am_mth 266) 183 = some (.iadd, 1, [], [5, 6, 7]) := by decide +kernel
theorem bf266_184 : am_fetch (am_mth 266) 184 = some (.iaload, 1, [], [5, 6, 7]) := by decide +kernel
theorem bf266_185 : am_fetch (am_mth 266) 185 = some (.aload_n 0, 1, [], [5, 6, 7]) := by decide +kernel
theorem bf266_186 : am_fetch (am_mth 266) 186 = some (.iload 4, 2, [], [5, 6, 7]) := by decide +kernel
theorem bf266_188 : am_fetch (am_mth 266) 188 = some (.iconst 3, 1, [], [5, 6, 7]) := by decide +kernel
theorem bf266_189 : am_fetch (am_mth 266) 189 = some (.iadd, 1, [], [5, 6, 7]) := by decide +kernel
theorem bf266_190 : am_fetch (am_mth 266) 190 = some (.iaload, 1, [], [5, 6, 7]) := by decide +kernel
theorem bf266_191 : am_fetch (am_mth 266) 191 = some (.aload_n 0, 1, [], [5, 6, 7]) := by decide +kernel
theorem bf266_192 : am_fetch (am_mth 266) 192 = some (.iload 4, 2, [], [5, 6, 7]) := by decide +kernel
theorem bf266_194 : am_fetch (am_mth 266) 194 = some (.iconst 4, 1, [], [5, 6, 7]) := by decide +kernel
theorem bf266_195 : am_fetch (am_mth 266) 195 = some (.iadd, 1, [], [5, 6, 7]) := by decide +kernel
theorem bf266_196 : am_fetch (am_mth 266) 196 = some (.iaload, 1, [], [5, 6, 7]) := by decide +kernel
theorem bf266_197 : am_fetch (am_mth 266) 197 = some (.aload_n 3, 1, [], [5, 6, 7]) := by decide +kernel
theorem bf266_198 : am_fetch (am_mth 266) 198 = some (.invokestatic 124, 3, [0, 216, 6, 495, 496, 45], [5, 6, 7]) := by decide +kernel
theorem bf266_201 : am_fetch (am_mth 266) 201 = some (.istore 5, 2, [], [5, 6, 7]) := by decide +kernel
theorem bf266_203 : am_fetch (am_mth 266) 203 = some (.aload_n 2, 1, [], [5, 6, 7]) := by decide +kernel
theorem bf266_204 : am_fetch (am_mth 266) 204 = some (.aload_n 0, 1, [], [5, 6, 7]) := by decide +kernel
theorem bf266_205 : am_fetch (am_mth 266) 205 = some (.iload 4, 2, [], [5, 6, 7]) := by decide +kernel
theorem bf266_207 : am_fetch (am_mth 266) 207 = some (.iconst 1, 1, [], [5, 6, 7]) := by decide +kernel
theorem bf266_208 : am_fetch (am_mth 266) 208 = some (.iadd, 1, [], [5, 6, 7]) := by decide +kernel
theorem bf266_209 : am_fetch (am_mth 266) 209 = some (.iaload, 1, [], [5, 6, 7]) := by decide +kernel
theorem bf266_210 : am_fetch (am_mth 266) 210 = some (.aload_n 0, 1, [], [5, 6, 7]) := by decide +kernel
theorem bf266_211 : am_fetch (am_mth 266) 211 = some (.iload 4, 2, [], [5, 6, 7]) := by decide +kernel
theorem bf266_213 : am_fetch (am_mth 266) 213 = some (.iconst 2, 1, [], [5, 6, 7]) := by decide +kernel
theorem bf266_214 : am_fetch (am_mth 266) 214 = some (.iadd, 1, [], [5, 6, 7]) := by decide +kernel
theorem bf266_215 : am_fetch (am_mth 266) 215 = some (.iaload, 1, [], [5, 6, 7]) := by decide +kernel
theorem bf266_216 : am_fetch (am_mth 266) 216 = some (.aload_n 0, 1, [], [5, 6, 7]) := by decide +kernel
theorem bf266_217 : am_fetch (am_mth 266) 217 = some (.iload 4, 2, [], [5, 6, 7]) := by decide +kernel
theorem bf266_219 : am_fetch (am_mth 266) 219 = some (.iconst 3, 1, [], [5, 6, 7]) := by decide +kernel
theorem bf266_220 : am_fetch (am_mth 266) 220 = some (.iadd, 1, [], [5, 6, 7]) := by decide +kernel
theorem bf266_221 : am_fetch (am_mth 266) 221 = some (.iaload, 1, [], [5, 6, 7]) := by decide +kernel
theorem bf266_222 : am_fetch (am_mth 266) 222 = some (.aload_n 0, 1, [], [5, 6, 7]) := by decide +kernel
theorem bf266_223 : am_fetch (am_mth 266) 223 = some (.iload 4, 2, [], [5, 6, 7]) := by decide +kernel
theorem bf266_225 : am_fetch (am_mth 266) 225 = some (.iconst 4, 1, [], [5, 6, 7]) := by decide +kernel
theorem bf266_226 : am_fetch (am_mth 266) 226 = some (.iadd, 1, [], [5, 6, 7]) := by decide +kernel
theorem bf266_227 : am_fetch (am_mth 266) 227 = some (.iaload, 1, [], [5, 6, 7]) := by decide +kernel
theorem bf266_228 : am_fetch (am_mth 266) 228 = some (.invokevirtual 129, 3, [0, 176, 4, 11, 1234, 1235, 1236, 48], [5, 6, 7]) := by decide +kernel
theorem bf266_231 : am_fetch (am_mth 266) 231 = some (.istore 6, 2, [], [5, 6, 7]) := by decide +kernel
theorem bf266_233 : am_fetch (am_mth 266) 233 = some (.goto 1171, 3, [], [5, 6, 7]) := by decide +kernel
theorem bf266_236 : am_fetch (am_mth 266) 236 = some (.aload_n 1, 1, [], [5, 6, 7]) := by decide +kernel
theorem bf266_237 : am_fetch (am_mth 266) 237 = some (.aload_n 0, 1, [], [5, 6, 7]) := by decide +kernel
theorem bf266_238 : am_fetch (am_mth 266) 238 = some (.iload 4, 2, [], [5, 6, 7]) := by decide +kernel
theorem bf266_240 : am_fetch (am_mth 266) 240 = some (.iconst 1, 1, [], [5, 6, 7]) := by decide +kernel
theorem bf266_241 : am_fetch (am_mth 266) 241 = some (.iadd, 1, [], [5, 6, 7]) := by decide +kernel
theorem bf266_242 : am_fetch (am_mth 266) 242 = some (.iaload, 1, [], [5, 6, 7]) := by decide +kernel
theorem bf266_243 : am_fetch (am_mth 266) 243 = some (.aload_n 3, 1, [], [5, 6, 7]) := by decide +kernel
theorem bf266_244 : am_fetch (am_mth 266) 244 = some (.invokestatic 130, 3, [0, 233, 3, 510, 511, 45], [5, 6, 7]) := by decide +kernel
theorem bf266_247 : am_fetch (am_mth 266) 247 = some (.istore 5, 2, [], [5, 6, 7]) := by decide +kernel
theorem bf266_249 : am_fetch (am_mth 266) 249 = some (.aload_n 2, 1, [], [5, 6, 7]) := by decide +kernel
theorem bf266_250 : am_fetch (am_mth 266) 250 = some (.aload_n 0, 1, [], [5, 6, 7]) := by decide +kernel
theorem bf266_251 : am_fetch (am_mth 266) 251 = some (.iload 4, 2, [], [5, 6, 7]) := by decide +kernel
theorem bf266_253 : am_fetch (am_mth 266) 253 = some (.iconst 1, 1, [], [5, 6, 7]) := by decide +kernel
theorem bf266_254 : am_fetch (am_mth 266) 254 = some (.iadd, 1, [], [5, 6, 7]) := by decide +kernel
theorem bf266_255 : am_fetch (am_mth 266) 255 = some (.iaload, 1, [], [5, 6, 7]) := by decide +kernel
theorem bf266_256 : am_fetch (am_mth 266) 256 = some (.invokevirtual 133, 3, [0, 206, 1, 11, 1265, 1266, 1267, 48], [5, 6, 7]) := by decide +kernel
theorem bf266_259 : am_fetch (am_mth 266) 259 = some (.istore 6, 2, [], [5, 6, 7]) := by decide +kernel
theorem bf266_261 : am_fetch (am_mth 266) 261 = some (.goto 1143, 3, [], [5, 6, 7]) := by decide +kernel
theorem bf266_264 : am_fetch (am_mth 266) 264 = some (.aload_n 1, 1, [], [5, 6, 7]) := by decide +kernel
theorem bf266_265 : am_fetch (am_mth 266) 265 = some (.aload_n 0, 1, [], [5, 6, 7]) := by decide +kernel
theorem bf266_266 : am_fetch (am_mth 266) 266 = some (.iload 4, 2, [], [5, 6, 7]) := by decide +kernel
theorem bf266_268 : am_fetch (am_mth 266) 268 = some (.iconst 1, 1, [], [5, 6, 7]) := by decide +kernel
theorem bf266_269 : am_fetch (am_mth 266) 269 = some (.iadd, 1, [], [5, 6, 7]) := by decide +kernel
theorem bf266_270 : am_fetch (am_mth 266) 270 = some (.iaload, 1, [], [5, 6, 7]) := by decide +kernel
theorem bf266_271 : am_fetch (am_mth 266) 271 = some (.aload_n 0, 1, [], [5, 6, 7]) := by decide +kernel
theorem bf266_272 : am_fetch (am_mth 266) 272 = some (.iload 4, 2, [], [5, 6, 7]) := by decide +kernel
theorem bf266_274 : am_fetch (am_mth 266) 274 = some (.iconst 2, 1, [], [5, 6, 7]) := by decide +kernel
theorem bf266_275 : am_fetch (am_mth 266) 275 = some (.iadd, 1, [], [5, 6, 7]) := by decide +kernel
theorem bf266_276 : am_fetch (am_mth 266) 276 = some (.iaload, 1, [], [5, 6, 7]) := by decide +kernel
theorem bf266_277 : am_fetch (am_mth 266) 277 = some (.ifCond .eq 7, 3, [], [5, 6, 7]) := by decide +kernel
theorem bf266_280 : am_fetch (am_mth 266) 280 = some (.iconst 1, 1, [], [5, 6, 7]) := by decide +kernel
theorem bf266_281 : am_fetch (am_mth 266) 281 = some (.goto 4, 3, [], [5, 6, 7]) := by decide +kernel
theorem bf266_284 : am_fetch (am_mth 266) 284 = some (.iconst 0, 1, [], [5, 6, 7]) := by decide +kernel
theorem bf266_285 : am_fetch (am_mth 266) 285 = some (.aload_n 0, 1, [], [5, 6, 7]) := by decide +kernel
theorem bf266_286 : am_fetch (am_mth 266) 286 = some (.iload 4, 2, [], [5, 6, 7]) := by decide +kernel
theorem bf266_288 : am_fetch (am_mth 266) 288 = some (.iconst 3, 1, [], [5, 6, 7]) := by decide +kernel
theorem bf266_289 : am_fetch (am_mth 266) 289 = some (.iadd, 1, [], [5, 6, 7]) := by decide +kernel
theorem bf266_290 : am_fetch (am_mth 266) 290 = some (.iaload, 1, [], [5, 6, 7]) := by decide +kernel
theorem bf266_291 : am_fetch (am_mth 266) 291 = some (.ifCond .eq 7, 3, [], [5, 6, 7]) := by decide +kernel
theorem bf266_294 : am_fetch (am_mth 266) 294 = some (.iconst 1, 1, [], [5, 6, 7]) := by decide +kernel
theorem bf266_295 : am_fetch (am_mth 266) 295 = some (.goto 4, 3, [], [5, 6, 7]) := by decide +kernel
theorem bf266_298 : am_fetch (am_mth 266) 298 = some (.iconst 0, 1, [], [5, 6, 7]) := by decide +kernel
theorem bf266_299 : am_fetch (am_mth 266) 299 = some (.aload_n 3, 1, [], [5, 6, 7]) := by decide +kernel
theorem bf266_300 : am_fetch (am_mth 266) 300 = some (.invokestatic 134, 3, [0, 147, 5, 525, 526, 45], [5, 6, 7]) := by decide +kernel
theorem bf266_303 : am_fetch (am_mth 266) 303 = some (.istore 5, 2, [], [5, 6, 7]) := by decide +kernel
theorem bf266_305 : am_fetch (am_mth 266) 305 = some (.aload_n 2, 1, [], [5, 6, 7]) := by decide +kernel
theorem bf266_306 : am_fetch (am_mth 266) 306 = some (.aload_n 0, 1, [], [5, 6, 7]) := by decide +kernel
theorem bf266_307 : am_fetch (am_mth 266) 307 = some (.iload 4, 2, [], [5, 6, 7]) := by decide +kernel
theorem bf266_309 : am_fetch (am_mth 266) 309 = some (.iconst 1, 1, [], [5, 6, 7]) := by decide +kernel
theorem bf266_310 : am_fetch (am_mth 266) 310 = some (.iadd, 1, [], [5, 6, 7]) := by decide +kernel
theorem bf266_311 : am_fetch (am_mth 266) 311 = some (.iaload, 1, [], [5, 6, 7]) := by decide +kernel
theorem bf266_312 : am_fetch (am_mth 266) 312 = some (.aload_n 0, 1, [], [5, 6, 7]) := by decide +kernel
theorem bf266_313 : am_fetch (am_mth 266) 313 = some (.iload 4, 2, [], [5, 6, 7]) := by decide +kernel
theorem bf266_315 : am_fetch (am_mth 266) 315 = some (.iconst 2, 1, [], [5, 6, 7]) := by decide +kernel
theorem bf266_316 : am_fetch (am_mth 266) 316 = some (.iadd, 1, [], [5, 6, 7]) := by decide +kernel
theorem bf266_317 : am_fetch (am_mth 266) 317 = some (.iaload, 1, [], [5, 6, 7]) := by decide +kernel
theorem bf266_318 : am_fetch (am_mth 266) 318 = some (.ifCond .eq 7, 3, [], [5, 6, 7]) := by decide +kernel
theorem bf266_321 : am_fetch (am_mth 266) 321 = some (.iconst 1, 1, [], [5, 6, 7]) := by decide +kernel
theorem bf266_322 : am_fetch (am_mth 266) 322 = some (.goto 4, 3, [], [5, 6, 7]) := by decide +kernel
theorem bf266_325 : am_fetch (am_mth 266) 325 = some (.iconst 0, 1, [], [5, 6, 7]) := by decide +kernel
theorem bf266_326 : am_fetch (am_mth 266) 326 = some (.aload_n 0, 1, [], [5, 6, 7]) := by decide +kernel
theorem bf266_327 : am_fetch (am_mth 266) 327 = some (.iload 4, 2, [], [5, 6, 7]) := by decide +kernel
theorem bf266_329 : am_fetch (am_mth 266) 329 = some (.iconst 3, 1, [], [5, 6, 7]) := by decide +kernel
theorem bf266_330 : am_fetch (am_mth 266) 330 = some (.iadd, 1, [], [5, 6, 7]) := by decide +kernel
theorem bf266_331 : am_fetch (am_mth 266) 331 = some (.iaload, 1, [], [5, 6, 7]) := by decide +kernel
theorem bf266_332 : am_fetch (am_mth 266) 332 = some (.ifCond .eq 7, 3, [], [5, 6, 7]) := by decide +kernel
theorem bf266_335 : am_fetch (am_mth 266) 335 = some (.iconst 1, 1, [], [5, 6, 7]) := by decide +kernel
theorem bf266_336 : am_fetch (am_mth 266) 336 = some (.goto 4, 3, [], [5, 6, 7]) := by decide +kernel
theorem bf266_339 : am_fetch (am_mth 266) 339 = some (.iconst 0, 1, [], [5, 6, 7]) := by decide +kernel
theorem bf266_340 : am_fetch (am_mth 266) 340 = some (.invokevirtual 137, 3, [0, 144, 3, 11, 1276, 1277, 1278, 48], [5, 6, 7]) := by decide +kernel
theorem bf266_343 : am_fetch (am_mth 266) 343 = some (.istore 6, 2, [], [5, 6, 7]) := by decide +kernel
theorem bf266_345 : am_fetch (am_mth 266) 345 = some (.goto 1059, 3, [], [5, 6, 7]) := by decide +kernel
theorem bf266_348 : am_fetch (am_mth 266) 348 = some (.aload_n 1, 1, [], [5, 6, 7]) := by decide +kernel
theorem bf266_349 : am_fetch (am_mth 266) 349 = some (.aload_n 0, 1, [], [5, 6, 7]) := by decide +kernel
theorem bf266_350 : am_fetch (am_mth 266) 350 = some (.iload 4, 2, [], [5, 6, 7]) := by decide +kernel
theorem bf266_352 : am_fetch (am_mth 266) 352 = some (.iconst 1, 1, [], [5, 6, 7]) := by decide +kernel
theorem bf266_353 : am_fetch (am_mth 266) 353 = some (.iadd, 1, [], [5, 6, 7]) := by decide +kernel
theorem bf266_354 : am_fetch (am_mth 266) 354 = some (.iaload, 1, [], [5, 6, 7]) := by decide +kernel
theorem bf266_355 : am_fetch (am_mth 266) 355 = some (.aload_n 0, 1, [], [5, 6, 7]) := by decide +kernel
theorem bf266_356 : am_fetch (am_mth 266) 356 = some (.iload 4, 2, [], [5, 6, 7]) := by decide +kernel
theorem bf266_358 : am_fetch (am_mth 266) 358 = some (.iconst 2, 1, [], [5, 6, 7]) := by decide +kernel
theorem bf266_359 : am_fetch (am_mth 266) 359 = some (.iadd, 1, [], [5, 6, 7]) := by decide +kernel
theorem bf266_360 : am_fetch (am_mth 266) 360 = some (.iaload, 1, [], [5, 6, 7]) := by decide +kernel
theorem bf266_361 : am_fetch (am_mth 266) 361 = some (.aload_n 0, 1, [], [5, 6, 7]) := by decide +kernel
theorem bf266_362 : am_fetch (am_mth 266) 362 = some (.iload 4, 2, [], [5, 6, 7]) := by decide +kernel
theorem bf266_364 : am_fetch (am_mth 266) 364 = some (.iconst 3, 1, [], [5, 6, 7]) := by decide +kernel
theorem bf266_365 : am_fetch (am_mth 266) 365 = some (.iadd, 1, [], [5, 6, 7]) := by decide +kernel
theorem bf266_366 : am_fetch (am_mth 266) 366 = some (.iaload, 1, [], [5, 6, 7]) := by decide +kernel
theorem bf266_367 : am_fetch (am_mth 266) 367 = some (.aload_n 0, 1, [], [5, 6, 7]) := by decide +kernel
theorem bf266_368 : am_fetch (am_mth 266) 368 = some (.iload 4, 2, [], [5, 6, 7]) := by decide +kernel
theorem bf266_370 : am_fetch (am_mth 266) 370 = some (.iconst 4, 1, [], [5, 6, 7]) := by decide +kernel
theorem bf266_371 : am_fetch (am_mth 266) 371 = some (.iadd, 1, [], [5, 6, 7]) := by decide +kernel
theorem bf266_372 : am_fetch (am_mth 266) 372 = some (.iaload, 1, [], [5, 6, 7]) := by decide +kernel
theorem bf266_373 : am_fetch (am_mth 266) 373 = some (.ifCond .eq 7, 3, [], [5, 6, 7]) := by decide +kernel
theorem bf266_376 : am_fetch (am_mth 266) 376 = some (.iconst 1, 1, [], [5, 6, 7]) := by decide +kernel
theorem bf266_377 : am_fetch (am_mth 266) 377 = some (.goto 4, 3, [], [5, 6, 7]) := by decide +kernel
theorem bf266_380 : am_fetch (am_mth 266) 380 = some (.iconst 0, 1, [], [5, 6, 7]) := by decide +kernel
theorem bf266_381 : am_fetch (am_mth 266) 381 = some (.aload_n 3, 1, [], [5, 6, 7]) := by decide +kernel
theorem bf266_382 : am_fetch (am_mth 266) 382 = some (.invokestatic 138, 3, [0, 217, 6, 537, 538, 45], [5, 6, 7]) := by decide +kernel
theorem bf266_385 : am_fetch (am_mth 266) 385 = some (.istore 5, 2, [], [5, 6, 7]) := by decide +kernel
theorem bf266_387 : am_fetch (am_mth 266) 387 = some (.aload_n 2, 1, [], [5, 6, 7]) := by decide +kernel
theorem bf266_388 : am_fetch (am_mth 266) 388 = some (.aload_n 0, 1, [], [5, 6, 7]) := by decide +kernel
theorem bf266_389 : am_fetch (am_mth 266) 389 = some (.iload 4, 2, [], [5, 6, 7]) := by decide +kernel
theorem bf266_391 : am_fetch (am_mth 266) 391 = some (.iconst 1, 1, [], [5, 6, 7]) := by decide +kernel
theorem bf266_392 : am_fetch (am_mth 266) 392 = some (.iadd, 1, [], [5, 6, 7]) := by decide +kernel
theorem bf266_393 : am_fetch (am_mth 266) 393 = some (.iaload, 1, [], [5, 6, 7]) := by decide +kernel
theorem bf266_394 : am_fetch (am_mth 266) 394 = some (.aload_n 0, 1, [], [5, 6, 7]) := by decide +kernel
theorem bf266_395 : am_fetch (am_mth 266) 395 = some (.iload 4, 2, [], [5, 6, 7]) := by decide +kernel
theorem bf266_397 : am_fetch (am_mth 266) 397 = some (.iconst 2, 1, [], [5, 6, 7]) := by decide +kernel
theorem bf266_398 : am_fetch (am_mth 266) 398 = some (.iadd, 1, [], [5, 6, 7]) := by decide +kernel
theorem bf266_399 : am_fetch (am_mth 266) 399 = some (.iaload, 1, [], [5, 6, 7]) := by decide +kernel
theorem bf266_400 : am_fetch (am_mth 266) 400 = some (.aload_n 0, 1, [], [5, 6, 7]) := by decide +kernel
theorem bf266_401 : am_fetch (am_mth 266) 401 = some (.iload 4, 2, [], [5, 6, 7]) := by decide +kernel
theorem bf266_403 : am_fetch (am_mth 266) 403 = some (.iconst 3, 1, [], [5, 6, 7]) := by decide +kernel
theorem bf266_404 : am_fetch (am_mth 266) 404 = some (.iadd, 1, [], [5, 6, 7]) := by decide +kernel
theorem bf266_405 : am_fetch (am_mth 266) 405 = some (.iaload, 1, [], [5, 6, 7]) := by decide +kernel
theorem bf266_406 : am_fetch (am_mth 266) 406 = some (.aload_n 0, 1, [], [5, 6, 7]) := by decide +kernel
theorem bf266_407 : am_fetch (am_mth 266) 407 = some (.iload 4, 2, [], [5, 6, 7]) := by decide +kernel
theorem bf266_409 : am_fetch (am_mth 266) 409 = some (.iconst 4, 1, [], [5, 6, 7]) := by decide +kernel
theorem bf266_410 : am_fetch (am_mth 266) 410 = some (.iadd, 1, [], [5, 6, 7]) := by decide +kernel
theorem bf266_411 : am_fetch (am_mth 266) 411 = some (.iaload, 1, [], [5, 6, 7]) := by decide +kernel
theorem bf266_412 : am_fetch (am_mth 266) 412 = some (.ifCond .eq 7, 3, [], [5, 6, 7]) := by decide +kernel
theorem bf266_415 : am_fetch (am_mth 266) 415 = some (.iconst 1, 1, [], [5, 6, 7]) := by decide +kernel
theorem bf266_416 : am_fetch (am_mth 266) 416 = some (.goto 4, 3, [], [5, 6, 7]) := by decide +kernel
theorem bf266_419 : am_fetch (am_mth 266) 419 = some (.iconst 0, 1, [], [5, 6, 7]) := by decide +kernel
theorem bf266_420 : am_fetch (am_mth 266) 420 = some (.invokevirtual 141, 3, [0, 207, 4, 11, 1283, 1284, 1285, 48], [5, 6, 7]) := by decide +kernel
theorem bf266_423 : am_fetch (am_mth 266) 423 = some (.istore 6, 2, [], [5, 6, 7]) := by decide +kernel
theorem bf266_425 : am_fetch (am_mth 266) 425 = some (.goto 979, 3, [], [5, 6, 7]) := by decide +kernel
theorem bf266_428 : am_fetch (am_mth 266) 428 = some (.aload_n 1, 1, [], [5, 6, 7]) := by decide +kernel
theorem bf266_429 : am_fetch (am_mth 266) 429 = some (.aload_n 0, 1, [], [5, 6, 7]) := by decide +kernel
theorem bf266_430 : am_fetch (am_mth 266) 430 = some (.iload 4, 2, [], [5, 6, 7]) := by decide +kernel
theorem bf266_432 : am_fetch (am_mth 266) 432 = some (.iconst 1, 1, [], [5, 6, 7]) := by decide +kernel
theorem bf266_433 : am_fetch (am_mth 266) 433 = some (.iadd, 1, [], [5, 6, 7]) := by decide +kernel
theorem bf266_434 : am_fetch (am_mth 266) 434 = some (.iaload, 1, [], [5, 6, 7]) := by decide +kernel
theorem bf266_435 : am_fetch (am_mth 266) 435 = some (.aload_n 0, 1, [], [5, 6, 7]) := by decide +kernel
theorem bf266_436 : am_fetch (am_mth 266) 436 = some (.iload 4, 2, [], [5, 6, 7]) := by decide +kernel
theorem bf266_438 : am_fetch (am_mth 266) 438 = some (.iconst 2, 1, [], [5, 6, 7]) := by decide +kernel
theorem bf266_439 : am_fetch (am_mth 266) 439 = some (.iadd, 1, [], [5, 6, 7]) := by decide +kernel
theorem bf266_440 : am_fetch (am_mth 266) 440 = some (.iaload, 1, [], [5, 6, 7]) := by decide +kernel
theorem bf266_441 : am_fetch (am_mth 266) 441 = some (.ifCond .eq 7, 3, [], [5, 6, 7]) := by decide +kernel
theorem bf266_444 : am_fetch (am_mth 266) 444 = some (.iconst 1, 1, [], [5, 6, 7]) := by decide +kernel
theorem bf266_445 : am_fetch (am_mth 266) 445 = some (.goto 4, 3, [], [5, 6, 7]) := by decide +kernel
theorem bf266_448 : am_fetch (am_mth 266) 448 = some (.iconst 0, 1, [], [5, 6, 7]) := by decide +kernel
theorem bf266_449 : am_fetch (am_mth 266) 449 = some (.aload_n 3, 1, [], [5, 6, 7]) := by decide +kernel
theorem bf266_450 : am_fetch (am_mth 266) 450 = some (.invokestatic 142, 3, [0, 253, 4, 646, 647, 45], [5, 6, 7]) := by decide +kernel
theorem bf266_453 : am_fetch (am_mth 266) 453 = some (.istore 5, 2, [], [5, 6, 7]) := by decide +kernel
theorem bf266_455 : am_fetch (am_mth 266) 455 = some (.aload_n 2, 1, [], [5, 6, 7]) := by decide +kernel
theorem bf266_456 : am_fetch (am_mth 266) 456 = some (.aload_n 0, 1, [], [5, 6, 7]) := by decide +kernel
theorem bf266_457 : am_fetch (am_mth 266) 457 = some (.iload 4, 2, [], [5, 6, 7]) := by decide +kernel
theorem bf266_459 : am_fetch (am_mth 266) 459 = some (.iconst 1, 1, [], [5, 6, 7]) := by decide +kernel
theorem bf266_460 : am_fetch (am_mth 266) 460 = some (.iadd, 1, [], [5, 6, 7]) := by decide +kernel
theorem bf266_461 : am_fetch (am_mth 266) 461 = some (.iaload, 1, [], [5, 6, 7]) := by decide +kernel
theorem bf266_462 : am_fetch (am_mth 266) 462 = some (.aload_n 0, 1, [], [5, 6, 7]) := by decide +kernel
theorem bf266_463 : am_fetch (am_mth 266) 463 = some (.iload 4, 2, [], [5, 6, 7]) := by decide +kernel
theorem bf266_465 : am_fetch (am_mth 266) 465 = some (.iconst 2, 1, [], [5, 6, 7]) := by decide +kernel
theorem bf266_466 : am_fetch (am_mth 266) 466 = some (.iadd, 1, [], [5, 6, 7]) := by decide +kernel
theorem bf266_467 : am_fetch (am_mth 266) 467 = some (.iaload, 1, [], [5, 6, 7]) := by decide +kernel
theorem bf266_468 : am_fetch (am_mth 266) 468 = some (.ifCond .eq 7, 3, [], [5, 6, 7]) := by decide +kernel
theorem bf266_471 : am_fetch (am_mth 266) 471 = some (.iconst 1, 1, [], [5, 6, 7]) := by decide +kernel
theorem bf266_472 : am_fetch (am_mth 266) 472 = some (.goto 4, 3, [], [5, 6, 7]) := by decide +kernel
theorem bf266_475 : am_fetch (am_mth 266) 475 = some (.iconst 0, 1, [], [5, 6, 7]) := by decide +kernel
theorem bf266_476 : am_fetch (am_mth 266) 476 = some (.invokevirtual 145, 3, [0, 260, 2, 11, 1379, 1380, 1381, 48], [5, 6, 7]) := by decide +kernel
theorem bf266_479 : am_fetch (am_mth 266) 479 = some (.istore 6, 2, [], [5, 6, 7]) := by decide +kernel
theorem bf266_481 : am_fetch (am_mth 266) 481 = some (.goto 923, 3, [], [5, 6, 7]) := by decide +kernel
theorem bf266_484 : am_fetch (am_mth 266) 484 = some (.aload_n 1, 1, [], [5, 6, 7]) := by decide +kernel
theorem bf266_485 : am_fetch (am_mth 266) 485 = some (.aload_n 0, 1, [], [5, 6, 7]) := by decide +kernel
theorem bf266_486 : am_fetch (am_mth 266) 486 = some (.iload 4, 2, [], [5, 6, 7]) := by decide +kernel
theorem bf266_488 : am_fetch (am_mth 266) 488 = some (.iconst 1, 1, [], [5, 6, 7]) := by decide +kernel
theorem bf266_489 : am_fetch (am_mth 266) 489 = some (.iadd, 1, [], [5, 6, 7]) := by decide +kernel
theorem bf266_490 : am_fetch (am_mth 266) 490 = some (.iaload, 1, [], [5, 6, 7]) := by decide +kernel
theorem bf266_491 : am_fetch (am_mth 266) 491 = some (.aload_n 0, 1, [], [5, 6, 7]) := by decide +kernel
theorem bf266_492 : am_fetch (am_mth 266) 492 = some (.iload 4, 2, [], [5, 6, 7]) := by decide +kernel
theorem bf266_494 : am_fetch (am_mth 266) 494 = some (.iconst 2, 1, [], [5, 6, 7]) := by decide +kernel
theorem bf266_495 : am_fetch (am_mth 266) 495 = some (.iadd, 1, [], [5, 6, 7]) := by decide +kernel
theorem bf266_496 : am_fetch (am_mth 266) 496 = some (.iaload, 1, [], [5, 6, 7]) := by decide +kernel
theorem bf266_497 : am_fetch (am_mth 266) 497 = some (.ifCond .eq 7, 3, [], [5, 6, 7]) := by decide +kernel
theorem bf266_500 : am_fetch (am_mth 266) 500 = some (.iconst 1, 1, [], [5, 6, 7]) := by decide +kernel
theorem bf266_501 : am_fetch (am_mth 266) 501 = some (.goto 4, 3, [], [5, 6, 7]) := by decide +kernel
theorem bf266_504 : am_fetch (am_mth 266) 504 = some (.iconst 0, 1, [], [5, 6, 7]) := by decide +kernel
theorem bf266_505 : am_fetch (am_mth 266) 505 = some (.aload_n 0, 1, [], [5, 6, 7]) := by decide +kernel
theorem bf266_506 : am_fetch (am_mth 266) 506 = some (.iload 4, 2, [], [5, 6, 7]) := by decide +kernel
theorem bf266_508 : am_fetch (am_mth 266) 508 = some (.iconst 3, 1, [], [5, 6, 7]) := by decide +kernel
theorem bf266_509 : am_fetch (am_mth 266) 509 = some (.iadd, 1, [], [5, 6, 7]) := by decide +kernel
theorem bf266_510 : am_fetch (am_mth 266) 510 = some (.iaload, 1, [], [5, 6, 7]) := by decide +kernel
theorem bf266_511 : am_fetch (am_mth 266) 511 = some (.ifCond .eq 7, 3, [], [5, 6, 7]) := by decide +kernel
theorem bf266_514 : am_fetch (am_mth 266) 514 = some (.iconst 1, 1, [], [5, 6, 7]) := by decide +kernel
theorem bf266_515 : am_fetch (am_mth 266) 515 = some (.goto 4, 3, [], [5, 6, 7]) := by decide +kernel
theorem bf266_518 : am_fetch (am_mth 266) 518 = some (.iconst 0, 1, [], [5, 6, 7]) := by decide +kernel
theorem bf266_519 : am_fetch (am_mth 266) 519 = some (.aload_n 3, 1, [], [5, 6, 7]) := by decide +kernel
theorem bf266_520 : am_fetch (am_mth 266) 520 = some (.invokestatic 146, 3, [0, 254, 5, 716, 717, 45], [5, 6, 7]) := by decide +kernel
theorem bf266_523 : am_fetch (am_mth 266) 523 = some (.istore 5, 2, [], [5, 6, 7]) := by decide +kernel
theorem bf266_525 : am_fetch (am_mth 266) 525 = some (.aload_n 2, 1, [], [5, 6, 7]) := by decide +kernel
theorem bf266_526 : am_fetch (am_mth 266) 526 = some (.aload_n 0, 1, [], [5, 6, 7]) := by decide +kernel
theorem bf266_527 : am_fetch (am_mth 266) 527 = some (.iload 4, 2, [], [5, 6, 7]) := by decide +kernel
theorem bf266_529 : am_fetch (am_mth 266) 529 = some (.iconst 1, 1, [], [5, 6, 7]) := by decide +kernel
theorem bf266_530 : am_fetch (am_mth 266) 530 = some (.iadd, 1, [], [5, 6, 7]) := by decide +kernel
theorem bf266_531 : am_fetch (am_mth 266) 531 = some (.iaload, 1, [], [5, 6, 7]) := by decide +kernel
theorem bf266_532 : am_fetch (am_mth 266) 532 = some (.aload_n 0, 1, [], [5, 6, 7]) := by decide +kernel
theorem bf266_533 : am_fetch (am_mth 266) 533 = some (.iload 4, 2, [], [5, 6, 7]) := by decide +kernel
theorem bf266_535 : am_fetch (am_mth 266) 535 = some (.iconst 2, 1, [], [5, 6, 7]) := by decide +kernel
theorem bf266_536 : am_fetch (am_mth 266) 536 = some (.iadd, 1, [], [5, 6, 7]) := by decide +kernel
theorem bf266_537 : am_fetch (am_mth 266) 537 = some (.iaload, 1, [], [5, 6, 7]) := by decide +kernel
theorem bf266_538 : am_fetch (am_mth 266) 538 = some (.ifCond .eq 7, 3, [], [5, 6, 7]) := by decide +kernel
theorem bf266_541 : am_fetch (am_mth 266) 541 = some (.iconst 1, 1, [], [5, 6, 7]) := by decide +kernel
theorem bf266_542 : am_fetch (am_mth 266) 542 = some (.goto 4, 3, [], [5, 6, 7]) := by decide +kernel
theorem bf266_545 : am_fetch (am_mth 266) 545 = some (.iconst 0, 1, [], [5, 6, 7]) := by decide +kernel
theorem bf266_546 : am_fetch (am_mth 266) 546 = some (.aload_n 0, 1, [], [5, 6, 7]) := by decide +kernel
theorem bf266_547 : am_fetch (am_mth 266) 547 = some (.iload 4, 2, [], [5, 6, 7]) := by decide +kernel
theorem bf266_549 : am_fetch (am_mth 266) 549 = some (.iconst 3, 1, [], [5, 6, 7]) := by decide +kernel
theorem bf266_550 : am_fetch (am_mth 266) 550 = some (.iadd, 1, [], [5, 6, 7]) := by decide +kernel
theorem bf266_551 : am_fetch (am_mth 266) 551 = some (.iaload, 1, [], [5, 6, 7]) := by decide +kernel
theorem bf266_552 : am_fetch (am_mth 266) 552 = some (.ifCond .eq 7, 3, [], [5, 6, 7]) := by decide +kernel
theorem bf266_555 : am_fetch (am_mth 266) 555 = some (.iconst 1, 1, [], [5, 6, 7]) := by decide +kernel
theorem bf266_556 : am_fetch (am_mth 266) 556 = some (.goto 4, 3, [], [5, 6, 7]) := by decide +kernel
theorem bf266_559 : am_fetch (am_mth 266) 559 = some (.iconst 0, 1, [], [5, 6, 7]) := by decide +kernel
theorem bf266_560 : am_fetch (am_mth 266) 560 = some (.invokevirtual 148, 3, [0, 261, 3, 11, 1460, 1461, 1462, 48], [5, 6, 7]) := by decide +kernel
theorem bf266_563 : am_fetch (am_mth 266) 563 = some (.istore 6, 2, [], [5, 6, 7]) := by decide +kernel
theorem bf266_565 : am_fetch (am_mth 266) 565 = some (.goto 839, 3, [], [5, 6, 7]) := by decide +kernel
theorem bf266_568 : am_fetch (am_mth 266) 568 = some (.aload_n 1, 1, [], [5, 6, 7]) := by decide +kernel
theorem bf266_569 : am_fetch (am_mth 266) 569 = some (.aload_n 0, 1, [], [5, 6, 7]) := by decide +kernel
theorem bf266_570 : am_fetch (am_mth 266) 570 = some (.iload 4, 2, [], [5, 6, 7]) := by decide +kernel
theorem bf266_572 : am_fetch (am_mth 266) 572 = some (.iconst 1, 1, [], [5, 6, 7]) := by decide +kernel
theorem bf266_573 : am_fetch (am_mth 266) 573 = some (.iadd, 1, [], [5, 6, 7]) := by decide +kernel
theorem bf266_574 : am_fetch (am_mth 266) 574 = some (.iaload, 1, [], [5, 6, 7]) := by decide +kernel
theorem bf266_575 : am_fetch (am_mth 266) 575 = some (.aload_n 0, 1, [], [5, 6, 7]) := by decide +kernel
theorem bf266_576 : am_fetch (am_mth 266) 576 = some (.iload 4, 2, [], [5, 6, 7]) := by decide +kernel
theorem bf266_578 : am_fetch (am_mth 266) 578 = some (.iconst 2, 1, [], [5, 6, 7]) := by decide +kernel
theorem bf266_579 : am_fetch (am_mth 266) 579 = some (.iadd, 1, [], [5, 6, 7]) := by decide +kernel
theorem bf266_580 : am_fetch (am_mth 266) 580 = some (.iaload, 1, [], [5, 6, 7]) := by decide +kernel
theorem bf266_581 : am_fetch (am_mth 266) 581 = some (.ifCond .eq 7, 3, [], [5, 6, 7]) := by decide +kernel
theorem bf266_584 : am_fetch (am_mth 266) 584 = some (.iconst 1, 1, [], [5, 6, 7]) := by decide +kernel
theorem bf266_585 : am_fetch (am_mth 266) 585 = some (.goto 4, 3, [], [5, 6, 7]) := by decide +kernel
theorem bf266_588 : am_fetch (am_mth 266) 588 = some (.iconst 0, 1, [], [5, 6, 7]) := by decide +kernel
theorem bf266_589 : am_fetch (am_mth 266) 589 = some (.aload_n 3, 1, [], [5, 6, 7]) := by decide +kernel
theorem bf266_590 : am_fetch (am_mth 266) 590 = some (.invokestatic 149, 3, [0, 255, 4, 736, 737, 45], [5, 6, 7]) := by decide +kernel
theorem bf266_593 : am_fetch (am_mth 266) 593 = some (.istore 5, 2, [], [5, 6, 7]) := by decide +kernel
theorem bf266_595 : am_fetch (am_mth 266) 595 = some (.aload_n 2, 1, [], [5, 6, 7]) := by decide +kernel
theorem bf266_596 : am_fetch (am_mth 266) 596 = some (.aload_n 0, 1, [], [5, 6, 7]) := by decide +kernel
theorem bf266_597 : am_fetch (am_mth 266) 597 = some (.iload 4, 2, [], [5, 6, 7]) := by decide +kernel
theorem bf266_599 : am_fetch (am_mth 266) 599 = some (.iconst 1, 1, [], [5, 6, 7]) := by decide +kernel
theorem bf266_600 : am_fetch (am_mth 266) 600 = some (.iadd, 1, [], [5, 6, 7]) := by decide +kernel
theorem bf266_601 : am_fetch (am_mth 266) 601 = some (.iaload, 1, [], [5, 6, 7]) := by decide +kernel
theorem bf266_602 : am_fetch (am_mth 266) 602 = some (.aload_n 0, 1, [], [5, 6, 7]) := by decide +kernel
theorem bf266_603 : am_fetch (am_mth 266) 603 = some (.iload 4, 2, [], [5, 6, 7]) := by decide +kernel
theorem bf266_605 : am_fetch (am_mth 266) 605 = some (.iconst 2, 1, [], [5, 6, 7]) := by decide +kernel
theorem bf266_606 : am_fetch (am_mth 266) 606 = some (.iadd, 1, [], [5, 6, 7]) := by decide +kernel
theorem bf266_607 : am_fetch (am_mth 266) 607 = some (.iaload, 1, [], [5, 6, 7]) := by decide +kernel
theorem bf266_608 : am_fetch (am_mth 266) 608 = some (.ifCond .eq 7, 3, [], [5, 6, 7]) := by decide +kernel
theorem bf266_611 : am_fetch (am_mth 266) 611 = some (.iconst 1, 1, [], [5, 6, 7]) := by decide +kernel
theorem bf266_612 : am_fetch (am_mth 266) 612 = some (.goto 4, 3, [], [5, 6, 7]) := by decide +kernel
theorem bf266_615 : am_fetch (am_mth 266) 615 = some (.iconst 0, 1, [], [5, 6, 7]) := by decide +kernel
theorem bf266_616 : am_fetch (am_mth 266) 616 = some (.invokevirtual 151, 3, [0, 262, 2, 11, 1467, 1468, 1469, 48], [5, 6, 7]) := by decide +kernel
theorem bf266_619 : am_fetch (am_mth 266) 619 = some (.istore 6, 2, [], [5, 6, 7]) := by decide +kernel
theorem bf266_621 : am_fetch (am_mth 266) 621 = some (.goto 783, 3, [], [5, 6, 7]) := by decide +kernel
theorem bf266_624 : am_fetch (am_mth 266) 624 = some (.aload_n 1, 1, [], [5, 6, 7]) := by decide +kernel
theorem bf266_625 : am_fetch (am_mth 266) 625 = some (.aload_n 0, 1, [], [5, 6, 7]) := by decide +kernel
theorem bf266_626 : am_fetch (am_mth 266) 626 = some (.iload 4, 2, [], [5, 6, 7]) := by decide +kernel
theorem bf266_628 : am_fetch (am_mth 266) 628 = some (.iconst 1, 1, [], [5, 6, 7]) := by decide +kernel
theorem bf266_629 : am_fetch (am_mth 266) 629 = some (.iadd, 1, [], [5, 6, 7]) := by decide +kernel
theorem bf266_630 : am_fetch (am_mth 266) 630 = some (.iaload, 1, [], [5, 6, 7]) := by decide +kernel
theorem bf266_631 : am_fetch (am_mth 266) 631 = some (.aload_n 0, 1, [], [5, 6, 7]) := by decide +kernel
theorem bf266_632 : am_fetch (am_mth 266) 632 = some (.iload 4, 2, [], [5, 6, 7]) := by decide +kernel
theorem bf266_634 : am_fetch (am_mth 266) 634 = some (.iconst 2, 1, [], [5, 6, 7]) := by decide +kernel
theorem bf266_635 : am_fetch (am_mth 266) 635 = some (.iadd, 1, [], [5, 6, 7]) := by decide +kernel
theorem bf266_636 : am_fetch (am_mth 266) 636 = some (.iaload, 1, [], [5, 6, 7]) := by decide +kernel
theorem bf266_637 : am_fetch (am_mth 266) 637 = some (.ifCond .eq 7, 3, [], [5, 6, 7]) := by decide +kernel
theorem bf266_640 : am_fetch (am_mth 266) 640 = some (.iconst 1, 1, [], [5, 6, 7]) := by decide +kernel
theorem bf266_641 : am_fetch (am_mth 266) 641 = some (.goto 4, 3, [], [5, 6, 7]) := by decide +kernel
theorem bf266_644 : am_fetch (am_mth 266) 644 = some (.iconst 0, 1, [], [5, 6, 7]) := by decide +kernel
theorem bf266_645 : am_fetch (am_mth 266) 645 = some (.aload_n 3, 1, [], [5, 6, 7]) := by decide +kernel
theorem bf266_646 : am_fetch (am_mth 266) 646 = some (.invokestatic 152, 3, [0, 256, 4, 757, 758, 45], [5, 6, 7]) := by decide +kernel
theorem bf266_649 : am_fetch (am_mth 266) 649 = some (.istore 5, 2, [], [5, 6, 7]) := by decide +kernel
theorem bf266_651 : am_fetch (am_mth 266) 651 = some (.aload_n 2, 1, [], [5, 6, 7]) := by decide +kernel
theorem bf266_652 : am_fetch (am_mth 266) 652 = some (.aload_n 0, 1, [], [5, 6, 7]) := by decide +kernel
theorem bf266_653 : am_fetch (am_mth 266) 653 = some (.iload 4, 2, [], [5, 6, 7]) := by decide +kernel
theorem bf266_655 : am_fetch (am_mth 266) 655 = some (.iconst 1, 1, [], [5, 6, 7]) := by decide +kernel
theorem bf266_656 : am_fetch (am_mth 266) 656 = some (.iadd, 1, [], [5, 6, 7]) := by decide +kernel
theorem bf266_657 : am_fetch (am_mth 266) 657 = some (.iaload, 1, [], [5, 6, 7]) := by decide +kernel
theorem bf266_658 : am_fetch (am_mth 266) 658 = some (.aload_n 0, 1, [], [5, 6, 7]) := by decide +kernel
theorem bf266_659 : am_fetch (am_mth 266) 659 = some (.iload 4, 2, [], [5, 6, 7]) := by decide +kernel
theorem bf266_661 : am_fetch (am_mth 266) 661 = some (.iconst 2, 1, [], [5, 6, 7]) := by decide +kernel
theorem bf266_662 : am_fetch (am_mth 266) 662 = some (.iadd, 1, [], [5, 6, 7]) := by decide +kernel
theorem bf266_663 : am_fetch (am_mth 266) 663 = some (.iaload, 1, [], [5, 6, 7]) := by decide +kernel
theorem bf266_664 : am_fetch (am_mth 266) 664 = some (.ifCond .eq 7, 3, [], [5, 6, 7]) := by decide +kernel
theorem bf266_667 : am_fetch (am_mth 266) 667 = some (.iconst 1, 1, [], [5, 6, 7]) := by decide +kernel
theorem bf266_668 : am_fetch (am_mth 266) 668 = some (.goto 4, 3, [], [5, 6, 7]) := by decide +kernel
theorem bf266_671 : am_fetch (am_mth 266) 671 = some (.iconst 0, 1, [], [5, 6, 7]) := by decide +kernel
theorem bf266_672 : am_fetch (am_mth 266) 672 = some (.invokevirtual 154, 3, [0, 263, 2, 11, 1478, 1479, 1480, 48], [5, 6, 7]) := by decide +kernel
theorem bf266_675 : am_fetch (am_mth 266) 675 = some (.istore 6, 2, [], [5, 6, 7]) := by decide +kernel
theorem bf266_677 : am_fetch (am_mth 266) 677 = some (.goto 727, 3, [], [5, 6, 7]) := by decide +kernel
theorem bf266_680 : am_fetch (am_mth 266) 680 = some (.aload_n 1, 1, [], [5, 6, 7]) := by decide +kernel
theorem bf266_681 : am_fetch (am_mth 266) 681 = some (.aload_n 0, 1, [], [5, 6, 7]) := by decide +kernel
theorem bf266_682 : am_fetch (am_mth 266) 682 = some (.iload 4, 2, [], [5, 6, 7]) := by decide +kernel
theorem bf266_684 : am_fetch (am_mth 266) 684 = some (.iconst 1, 1, [], [5, 6, 7]) := by decide +kernel
theorem bf266_685 : am_fetch (am_mth 266) 685 = some (.iadd, 1, [], [5, 6, 7]) := by decide +kernel
theorem bf266_686 : am_fetch (am_mth 266) 686 = some (.iaload, 1, [], [5, 6, 7]) := by decide +kernel
theorem bf266_687 : am_fetch (am_mth 266) 687 = some (.aload_n 0, 1, [], [5, 6, 7]) := by decide +kernel
theorem bf266_688 : am_fetch (am_mth 266) 688 = some (.iload 4, 2, [], [5, 6, 7]) := by decide +kernel
theorem bf266_690 : am_fetch (am_mth 266) 690 = some (.iconst 2, 1, [], [5, 6, 7]) := by decide +kernel
theorem bf266_691 : am_fetch (am_mth 266) 691 = some (.iadd, 1, [], [5, 6, 7]) := by decide +kernel
theorem bf266_692 : am_fetch (am_mth 266) 692 = some (.iaload, 1, [], [5, 6, 7]) := by decide +kernel
theorem bf266_693 : am_fetch (am_mth 266) 693 = some (.aload_n 3, 1, [], [5, 6, 7]) := by decide +kernel
theorem bf266_694 : am_fetch (am_mth 266) 694 = some (.invokestatic 155, 3, [0, 187, 4, 770, 771, 45], [5, 6, 7]) := by decide +kernel
theorem bf266_697 : am_fetch (am_mth 266) 697 = some (.istore 5, 2, [], [5, 6, 7]) := by decide +kernel
theorem bf266_699 : am_fetch (am_mth 266) 699 = some (.aload_n 2, 1, [], [5, 6, 7]) := by decide +kernel
theorem bf266_700 : am_fetch (am_mth 266) 700 = some (.aload_n 0, 1, [], [5, 6, 7]) := by decide +kernel
theorem bf266_701 : am_fetch (am_mth 266) 701 = some (.iload 4, 2, [], [5, 6, 7]) := by decide +kernel
theorem bf266_703 : am_fetch (am_mth 266) 703 = some (.iconst 1, 1, [], [5, 6, 7]) := by decide +kernel
theorem bf266_704 : am_fetch (am_mth 266) 704 = some (.iadd, 1, [], [5, 6, 7]) := by decide +kernel
theorem bf266_705 : am_fetch (am_mth 266) 705 = some (.iaload, 1, [], [5, 6, 7]) := by decide +kernel
theorem bf266_706 : am_fetch (am_mth 266) 706 = some (.aload_n 0, 1, [], [5, 6, 7]) := by decide +kernel
theorem bf266_707 : am_fetch (am_mth 266) 707 = some (.iload 4, 2, [], [5, 6, 7]) := by decide +kernel
theorem bf266_709 : am_fetch (am_mth 266) 709 = some (.iconst 2, 1, [], [5, 6, 7]) := by decide +kernel
theorem bf266_710 : am_fetch (am_mth 266) 710 = some (.iadd, 1, [], [5, 6, 7]) := by decide +kernel
theorem bf266_711 : am_fetch (am_mth 266) 711 = some (.iaload, 1, [], [5, 6, 7]) := by decide +kernel
theorem bf266_712 : am_fetch (am_mth 266) 712 = some (.invokevirtual 158, 3, [0, 178, 2, 11, 1529, 1530, 1531, 48], [5, 6, 7]) := by decide +kernel
theorem bf266_715 : am_fetch (am_mth 266) 715 = some (.istore 6, 2, [], [5, 6, 7]) := by decide +kernel
theorem bf266_717 : am_fetch (am_mth 266) 717 = some (.goto 687, 3, [], [5, 6, 7]) := by decide +kernel
theorem bf266_720 : am_fetch (am_mth 266) 720 = some (.aload_n 1, 1, [], [5, 6, 7]) := by decide +kernel
theorem bf266_721 : am_fetch (am_mth 266) 721 = some (.aload_n 0, 1, [], [5, 6, 7]) := by decide +kernel
theorem bf266_722 : am_fetch (am_mth 266) 722 = some (.iload 4, 2, [], [5, 6, 7]) := by decide +kernel
theorem bf266_724 : am_fetch (am_mth 266) 724 = some (.iconst 1, 1, [], [5, 6, 7]) := by decide +kernel
theorem bf266_725 : am_fetch (am_mth 266) 725 = some (.iadd, 1, [], [5, 6, 7]) := by decide +kernel
theorem bf266_726 : am_fetch (am_mth 266) 726 = some (.iaload, 1, [], [5, 6, 7]) := by decide +kernel
theorem bf266_727 : am_fetch (am_mth 266) 727 = some (.aload_n 3, 1, [], [5, 6, 7]) := by decide +kernel
theorem bf266_728 : am_fetch (am_mth 266) 728 = some (.invokestatic 159, 3, [0, 188, 3, 778, 779, 45], [5, 6, 7]) := by decide +kernel
theorem bf266_731 : am_fetch (am_mth 266) 731 = some (.istore 5, 2, [], [5, 6, 7]) := by decide +kernel
theorem bf266_733 : am_fetch (am_mth 266) 733 = some (.aload_n 2, 1, [], [5, 6, 7]) := by decide +kernel
theorem bf266_734 : am_fetch (am_mth 266) 734 = some (.aload_n 0, 1, [], [5, 6, 7]) := by decide +kernel
theorem bf266_735 : am_fetch (am_mth 266) 735 = some (.iload 4, 2, [], [5, 6, 7]) := by decide +kernel
theorem bf266_737 : am_fetch (am_mth 266) 737 = some (.iconst 1, 1, [], [5, 6, 7]) := by decide +kernel
theorem bf266_738 : am_fetch (am_mth 266) 738 = some (.iadd, 1, [], [5, 6, 7]) := by decide +kernel
theorem bf266_739 : am_fetch (am_mth 266) 739 = some (.iaload, 1, [], [5, 6, 7]) := by decide +kernel
theorem bf266_740 : am_fetch (am_mth 266) 740 = some (.invokevirtual 161, 3, [0, 179, 1, 11, 1533, 1534, 1535, 48], [5, 6, 7]) := by decide +kernel
theorem bf266_743 : am_fetch (am_mth 266) 743 = some (.istore 6, 2, [], [5, 6, 7]) := by decide +kernel
theorem bf266_745 : am_fetch (am_mth 266) 745 = some (.goto 659, 3, [], [5, 6, 7]) := by decide +kernel
theorem bf266_748 : am_fetch (am_mth 266) 748 = some (.aload_n 1, 1, [], [5, 6, 7]) := by decide +kernel
theorem bf266_749 : am_fetch (am_mth 266) 749 = some (.aload_n 0, 1, [], [5, 6, 7]) := by decide +kernel
theorem bf266_750 : am_fetch (am_mth 266) 750 = some (.iload 4, 2, [], [5, 6, 7]) := by decide +kernel
theorem bf266_752 : am_fetch (am_mth 266) 752 = some (.iconst 1, 1, [], [5, 6, 7]) := by decide +kernel
theorem bf266_753 : am_fetch (am_mth 266) 753 = some (.iadd, 1, [], [5, 6, 7]) := by decide +kernel
theorem bf266_754 : am_fetch (am_mth 266) 754 = some (.iaload, 1, [], [5, 6, 7]) := by decide +kernel
theorem bf266_755 : am_fetch (am_mth 266) 755 = some (.aload_n 0, 1, [], [5, 6, 7]) := by decide +kernel
theorem bf266_756 : am_fetch (am_mth 266) 756 = some (.iload 4, 2, [], [5, 6, 7]) := by decide +kernel
theorem bf266_758 : am_fetch (am_mth 266) 758 = some (.iconst 2, 1, [], [5, 6, 7]) := by decide +kernel
theorem bf266_759 : am_fetch (am_mth 266) 759 = some (.iadd, 1, [], [5, 6, 7]) := by decide +kernel
theorem bf266_760 : am_fetch (am_mth 266) 760 = some (.iaload, 1, [], [5, 6, 7]) := by decide +kernel
theorem bf266_761 : am_fetch (am_mth 266) 761 = some (.aload_n 3, 1, [], [5, 6, 7]) := by decide +kernel
theorem bf266_762 : am_fetch (am_mth 266) 762 = some (.invokestatic 162, 3, [0, 218, 4, 786, 787, 45], [5, 6, 7]) := by decide +kernel
theorem bf266_765 : am_fetch (am_mth 266) 765 = some (.istore 5, 2, [], [5, 6, 7]) := by decide +kernel
theorem bf266_767 : am_fetch (am_mth 266) 767 = some (.aload_n 2, 1, [], [5, 6, 7]) := by decide +kernel
theorem bf266_768 : am_fetch (am_mth 266) 768 = some (.aload_n 0, 1, [], [5, 6, 7]) := by decide +kernel
theorem bf266_769 : am_fetch (am_mth 266) 769 = some (.iload 4, 2, [], [5, 6, 7]) := by decide +kernel
theorem bf266_771 : am_fetch (am_mth 266) 771 = some (.iconst 1, 1, [], [5, 6, 7]) := by decide +kernel
theorem bf266_772 : am_fetch (am_mth 266) 772 = some (.iadd, 1, [], [5, 6, 7]) := by decide +kernel
theorem bf266_773 : am_fetch (am_mth 266) 773 = some (.iaload, 1, [], [5, 6, 7]) := by decide +kernel
theorem bf266_774 : am_fetch (am_mth 266) 774 = some (.aload_n 0, 1, [], [5, 6, 7]) := by decide +kernel
theorem bf266_775 : am_fetch (am_mth 266) 775 = some (.iload 4, 2, [], [5, 6, 7]) := by decide +kernel
theorem bf266_777 : am_fetch (am_mth 266) 777 = some (.iconst 2, 1, [], [5, 6, 7]) := by decide +kernel
theorem bf266_778 : am_fetch (am_mth 266) 778 = some (.iadd, 1, [], [5, 6, 7]) := by decide +kernel
theorem bf266_779 : am_fetch (am_mth 266) 779 = some (.iaload, 1, [], [5, 6, 7]) := by decide +kernel
theorem bf266_780 : am_fetch (am_mth 266) 780 = some (.invokevirtual 164, 3, [0, 180, 2, 11, 1537, 1538, 1539, 48], [5, 6, 7]) := by decide +kernel
theorem bf266_783 : am_fetch (am_mth 266) 783 = some (.istore 6, 2, [], [5, 6, 7]) := by decide +kernel
theorem bf266_785 : am_fetch (am_mth 266) 785 = some (.goto 619, 3, [], [5, 6, 7]) := by decide +kernel
theorem bf266_788 : am_fetch (am_mth 266) 788 = some (.aload_n 1, 1, [], [5, 6, 7]) := by decide +kernel
theorem bf266_789 : am_fetch (am_mth 266) 789 = some (.aload_n 0, 1, [], [5, 6, 7]) := by decide +kernel
theorem bf266_790 : am_fetch (am_mth 266) 790 = some (.iload 4, 2, [], [5, 6, 7]) := by decide +kernel
theorem bf266_792 : am_fetch (am_mth 266) 792 = some (.iconst 1, 1, [], [5, 6, 7]) := by decide +kernel
theorem bf266_793 : am_fetch (am_mth 266) 793 = some (.iadd, 1, [], [5, 6, 7]) := by decide +kernel
theorem bf266_794 : am_fetch (am_mth 266) 794 = some (.iaload, 1, [], [5, 6, 7]) := by decide +kernel
theorem bf266_795 : am_fetch (am_mth 266) 795 = some (.aload_n 3, 1, [], [5, 6, 7]) := by decide +kernel
theorem bf266_796 : am_fetch (am_mth 266) 796 = some (.invokestatic 165, 3, [0, 189, 3, 807, 808, 45], [5, 6, 7]) := by decide +kernel
theorem bf266_799 : am_fetch (am_mth 266) 799 = some (.istore 5, 2, [], [5, 6, 7]) := by decide +kernel
theorem bf266_801 : am_fetch (am_mth 266) 801 = some (.aload_n 2, 1, [], [5, 6, 7]) := by decide +kernel
theorem bf266_802 : am_fetch (am_mth 266) 802 = some (.aload_n 0, 1, [], [5, 6, 7]) := by decide +kernel
theorem bf266_803 : am_fetch (am_mth 266) 803 = some (.iload 4, 2, [], [5, 6, 7]) := by decide +kernel
theorem bf266_805 : am_fetch (am_mth 266) 805 = some (.iconst 1, 1, [], [5, 6, 7]) := by decide +kernel
theorem bf266_806 : am_fetch (am_mth 266) 806 = some (.iadd, 1, [], [5, 6, 7]) := by decide +kernel
theorem bf266_807 : am_fetch (am_mth 266) 807 = some (.iaload, 1, [], [5, 6, 7]) := by decide +kernel
theorem bf266_808 : am_fetch (am_mth 266) 808 = some (.invokevirtual 167, 3, [0, 145, 1, 11, 1541, 1542, 1543, 48], [5, 6, 7]) := by decide +kernel
theorem bf266_811 : am_fetch (am_mth 266) 811 = some (.istore 6, 2, [], [5, 6, 7]) := by decide +kernel
theorem bf266_813 : am_fetch (am_mth 266) 813 = some (.goto 591, 3, [], [5, 6, 7]) := by decide +kernel
theorem bf266_816 : am_fetch (am_mth 266) 816 = some (.aload_n 1, 1, [], [5, 6, 7]) := by decide +kernel
theorem bf266_817 : am_fetch (am_mth 266) 817 = some (.invokevirtual 168, 3, [0, 24, 0, 8, 139, 140, 141, 46], [5, 6, 7]) := by decide +kernel
theorem bf266_820 : am_fetch (am_mth 266) 820 = some (.pop, 1, [], [5, 6, 7]) := by decide +kernel
theorem bf266_821 : am_fetch (am_mth 266) 821 = some (.aload_n 2, 1, [], [5, 6, 7]) := by decide +kernel
theorem bf266_822 : am_fetch (am_mth 266) 822 = some (.invokevirtual 172, 3, [0, 47, 0, 11, 1545, 1546, 1547, 48], [5, 6, 7]) := by decide +kernel
theorem bf266_825 : am_fetch (am_mth 266) 825 = some (.pop, 1, [], [5, 6, 7]) := by decide +kernel
theorem bf266_826 : am_fetch (am_mth 266) 826 = some (.goto 578, 3, [], [5, 6, 7]) := by decide +kernel
theorem bf266_829 : am_fetch (am_mth 266) 829 = some (.aload_n 1, 1, [], [5, 6, 7]) := by decide +kernel
theorem bf266_830 : am_fetch (am_mth 266) 830 = some (.aload_n 0, 1, [], [5, 6, 7]) := by decide +kernel
theorem bf266_831 : am_fetch (am_mth 266) 831 = some (.iload 4, 2, [], [5, 6, 7]) := by decide +kernel
theorem bf266_833 : am_fetch (am_mth 266) 833 = some (.iconst 1, 1, [], [5, 6, 7]) := by decide +kernel
theorem bf266_834 : am_fetch (am_mth 266) 834 = some (.iadd, 1, [], [5, 6, 7]) := by decide +kernel
theorem bf266_835 : am_fetch (am_mth 266) 835 = some (.iaload, 1, [], [5, 6, 7]) := by decide +kernel
theorem bf266_836 : am_fetch (am_mth 266) 836 = some (.aload_n 0, 1, [], [5, 6, 7]) := by decide +kernel
theorem bf266_837 : am_fetch (am_mth 266) 837 = some (.iload 4, 2, [], [5, 6, 7]) := by decide +kernel
theorem bf266_839 : am_fetch (am_mth 266) 839 = some (.iconst 2, 1, [], [5, 6, 7]) := by decide +kernel
theorem bf266_840 : am_fetch (am_mth 266) 840 = some (.iadd, 1, [], [5, 6, 7]) := by decide +kernel
theorem bf266_841 : am_fetch (am_mth 266) 841 = some (.iaload, 1, [], [5, 6, 7]) := by decide +kernel
theorem bf266_842 : am_fetch (am_mth 266) 842 = some (.aload_n 0, 1, [], [5, 6, 7]) := by decide +kernel
theorem bf266_843 : am_fetch (am_mth 266) 843 = some (.iload 4, 2, [], [5, 6, 7]) := by decide +kernel
theorem bf266_845 : am_fetch (am_mth 266) 845 = some (.iconst 3, 1, [], [5, 6, 7]) := by decide +kernel
theorem bf266_846 : am_fetch (am_mth 266) 846 = some (.iadd, 1, [], [5, 6, 7]) := by decide +kernel
theorem bf266_847 : am_fetch (am_mth 266) 847 = some (.iaload, 1, [], [5, 6, 7]) := by decide +kernel
theorem bf266_848 : am_fetch (am_mth 266) 848 = some (.aload_n 3, 1, [], [5, 6, 7]) := by decide +kernel
theorem bf266_849 : am_fetch (am_mth 266) 849 = some (.invokestatic 173, 3, [0, 219, 5, 815, 816, 45], [5, 6, 7]) := by decide +kernel
theorem bf266_852 : am_fetch (am_mth 266) 852 = some (.istore 5, 2, [], [5, 6, 7]) := by decide +kernel
theorem bf266_854 : am_fetch (am_mth 266) 854 = some (.aload_n 2, 1, [], [5, 6, 7]) := by decide +kernel
theorem bf266_855 : am_fetch (am_mth 266) 855 = some (.aload_n 0, 1, [], [5, 6, 7]) := by decide +kernel
theorem bf266_856 : am_fetch (am_mth 266) 856 = some (.iload 4, 2, [], [5, 6, 7]) := by decide +kernel
theorem bf266_858 : am_fetch (am_mth 266) 858 = some (.iconst 1, 1, [], [5, 6, 7]) := by decide +kernel
theorem bf266_859 : am_fetch (am_mth 266) 859 = some (.iadd, 1, [], [5, 6, 7]) := by decide +kernel
theorem bf266_860 : am_fetch (am_mth 266) 860 = some (.iaload, 1, [], [5, 6, 7]) := by decide +kernel
theorem bf266_861 : am_fetch (am_mth 266) 861 = some (.aload_n 0, 1, [], [5, 6, 7]) := by decide +kernel
theorem bf266_862 : am_fetch (am_mth 266) 862 = some (.iload 4, 2, [], [5, 6, 7]) := by decide +kernel
theorem bf266_864 : am_fetch (am_mth 266) 864 = some (.iconst 2, 1, [], [5, 6, 7]) := by decide +kernel
theorem bf266_865 : am_fetch (am_mth 266) 865 = some (.iadd, 1, [], [5, 6, 7]) := by decide +kernel
theorem bf266_866 : am_fetch (am_mth 266) 866 = some (.iaload, 1, [], [5, 6, 7]) := by decide +kernel
theorem bf266_867 : am_fetch (am_mth 266) 867 = some (.aload_n 0, 1, [], [5, 6, 7]) := by decide +kernel
theorem bf266_868 : am_fetch (am_mth 266) 868 = some (.iload 4, 2, [], [5, 6, 7]) := by decide +kernel
theorem bf266_870 : am_fetch (am_mth 266) 870 = some (.iconst 3, 1, [], [5, 6, 7]) := by decide +kernel
theorem bf266_871 : am_fetch (am_mth 266) 871 = some (.iadd, 1, [], [5, 6, 7]) := by decide +kernel
theorem bf266_872 : am_fetch (am_mth 266) 872 = some (.iaload, 1, [], [5, 6, 7]) := by decide +kernel
theorem bf266_873 : am_fetch (am_mth 266) 873 = some (.invokevirtual 176, 3, [0, 212, 3, 11, 1549, 1550, 1551, 48], [5, 6, 7]) := by decide +kernel
theorem bf266_876 : am_fetch (am_mth 266) 876 = some (.istore 6, 2, [], [5, 6, 7]) := by decide +kernel
theorem bf266_878 : am_fetch (am_mth 266) 878 = some (.goto 526, 3, [], [5, 6, 7]) := by decide +kernel
theorem bf266_881 : am_fetch (am_mth 266) 881 = some (.aload_n 1, 1, [], [5, 6, 7]) := by decide +kernel
theorem bf266_882 : am_fetch (am_mth 266) 882 = some (.aload_n 0, 1, [], [5, 6, 7]) := by decide +kernel
theorem bf266_883 : am_fetch (am_mth 266) 883 = some (.iload 4, 2, [], [5, 6, 7]) := by decide +kernel
theorem bf266_885 : am_fetch (am_mth 266) 885 = some (.iconst 1, 1, [], [5, 6, 7]) := by decide +kernel
theorem bf266_886 : am_fetch (am_mth 266) 886 = some (.iadd, 1, [], [5, 6, 7]) := by decide +kernel
theorem bf266_887 : am_fetch (am_mth 266) 887 = some (.iaload, 1, [], [5, 6, 7]) := by decide +kernel
theorem bf266_888 : am_fetch (am_mth 266) 888 = some (.aload_n 0, 1, [], [5, 6, 7]) := by decide +kernel
theorem bf266_889 : am_fetch (am_mth 266) 889 = some (.iload 4, 2, [], [5, 6, 7]) := by decide +kernel
theorem bf266_891 : am_fetch (am_mth 266) 891 = some (.iconst 2, 1, [], [5, 6, 7]) := by decide +kernel
theorem bf266_892 : am_fetch (am_mth 266) 892 = some (.iadd, 1, [], [5, 6, 7]) := by decide +kernel
theorem bf266_893 : am_fetch (am_mth 266) 893 = some (.iaload, 1, [], [5, 6, 7]) := by decide +kernel
theorem bf266_894 : am_fetch (am_mth 266) 894 = some (.aload_n 3, 1, [], [5, 6, 7]) := by decide +kernel
theorem bf266_895 : am_fetch (am_mth 266) 895 = some (.invokestatic 177, 3, [0, 234, 4, 819, 820, 45], [5, 6, 7]) := by decide +kernel
theorem bf266_898 : am_fetch (am_mth 266) 898 = some (.istore 5, 2, [], [5, 6, 7]) := by decide +kernel
theorem bf266_900 : am_fetch (am_mth 266) 900 = some (.aload_n 2, 1, [], [5, 6, 7]) := by decide +kernel
theorem bf266_901 : am_fetch (am_mth 266) 901 = some (.aload_n 0, 1, [], [5, 6, 7]) := by decide +kernel
theorem bf266_902 : am_fetch (am_mth 266) 902 = some (.iload 4, 2, [], [5, 6, 7]) := by decide +kernel
theorem bf266_904 : am_fetch (am_mth 266) 904 = some (.iconst 1, 1, [], [5, 6, 7]) := by decide +kernel
theorem bf266_905 : am_fetch (am_mth 266) 905 = some (.iadd, 1, [], [5, 6, 7]) := by decide +kernel
theorem bf266_906 : am_fetch (am_mth 266) 906 = some (.iaload, 1, [], [5, 6, 7]) := by decide +kernel
theorem bf266_907 : am_fetch (am_mth 266) 907 = some (.aload_n 0, 1, [], [5, 6, 7]) := by decide +kernel
theorem bf266_908 : am_fetch (am_mth 266) 908 = some (.iload 4, 2, [], [5, 6, 7]) := by decide +kernel
theorem bf266_910 : am_fetch (am_mth 266) 910 = some (.iconst 2, 1, [], [5, 6, 7]) := by decide +kernel
theorem bf266_911 : am_fetch (am_mth 266) 911 = some (.iadd, 1, [], [5, 6, 7]) := by decide +kernel
theorem bf266_912 : am_fetch (am_mth 266) 912 = some (.iaload, 1, [], [5, 6, 7]) := by decide +kernel
theorem bf266_913 : am_fetch (am_mth 266) 913 = some (.invokevirtual 179, 3, [0, 182, 2, 11, 1557, 1558, 1559, 48], [5, 6, 7]) := by decide +kernel
theorem bf266_916 : am_fetch (am_mth 266) 916 = some (.istore 6, 2, [], [5, 6, 7]) := by decide +kernel
theorem bf266_918 : am_fetch (am_mth 266) 918 = some (.goto 486, 3, [], [5, 6, 7]) := by decide +kernel
theorem bf266_921 : am_fetch (am_mth 266) 921 = some (.aload_n 1, 1, [], [5, 6, 7]) := by decide +kernel
theorem bf266_922 : am_fetch (am_mth 266) 922 = some (.aload_n 0, 1, [], [5, 6, 7]) := by decide +kernel
theorem bf266_923 : am_fetch (am_mth 266) 923 = some (.iload 4, 2, [], [5, 6, 7]) := by decide +kernel
theorem bf266_925 : am_fetch (am_mth 266) 925 = some (.iconst 1, 1, [], [5, 6, 7]) := by decide +kernel
theorem bf266_926 : am_fetch (am_mth 266) 926 = some (.iadd, 1, [], [5, 6, 7]) := by decide +kernel
theorem bf266_927 : am_fetch (am_mth 266) 927 = some (.iaload, 1, [], [5, 6, 7]) := by decide +kernel
theorem bf266_928 : am_fetch (am_mth 266) 928 = some (.aload_n 3, 1, [], [5, 6, 7]) := by decide +kernel
theorem bf266_929 : am_fetch (am_mth 266) 929 = some (.invokestatic 180, 3, [0, 190, 3, 823, 824, 45], [5, 6, 7]) := by decide +kernel
theorem bf266_932 : am_fetch (am_mth 266) 932 = some (.istore 5, 2, [], [5, 6, 7]) := by decide +kernel
theorem bf266_934 : am_fetch (am_mth 266) 934 = some (.aload_n 2, 1, [], [5, 6, 7]) := by decide +kernel
theorem bf266_935 : am_fetch (am_mth 266) 935 = some (.aload_n 0, 1, [], [5, 6, 7]) := by decide +kernel
theorem bf266_936 : am_fetch (am_mth 266) 936 = some (.iload 4, 2, [], [5, 6, 7]) := by decide +kernel
theorem bf266_938 : am_fetch (am_mth 266) 938 = some (.iconst 1, 1, [], [5, 6, 7]) := by decide +kernel
theorem bf266_939 : am_fetch (am_mth 266) 939 = some (.iadd, 1, [], [5, 6, 7]) := by decide +kernel
theorem bf266_940 : am_fetch (am_mth 266) 940 = some (.iaload, 1, [], [5, 6, 7]) := by decide +kernel
theorem bf266_941 : am_fetch (am_mth 266) 941 = some (.invokevirtual 182, 3, [0, 227, 1, 11, 1565, 1566, 1567, 48], [5, 6, 7]) := by decide +kernel
theorem bf266_944 : am_fetch (am_mth 266) 944 = some (.istore 6, 2, [], [5, 6, 7]) := by decide +kernel
theorem bf266_946 : am_fetch (am_mth 266) 946 = some (.goto 458, 3, [], [5, 6, 7]) := by decide +kernel
theorem bf266_949 : am_fetch (am_mth 266) 949 = some (.aload_n 1, 1, [], [5, 6, 7]) := by decide +kernel
theorem bf266_950 : am_fetch (am_mth 266) 950 = some (.aload_n 0, 1, [], [5, 6, 7]) := by decide +kernel
theorem bf266_951 : am_fetch (am_mth 266) 951 = some (.iload 4, 2, [], [5, 6, 7]) := by decide +kernel
theorem bf266_953 : am_fetch (am_mth 266) 953 = some (.iconst 1, 1, [], [5, 6, 7]) := by decide +kernel
theorem bf266_954 : am_fetch (am_mth 266) 954 = some (.iadd, 1, [], [5, 6, 7]) := by decide +kernel
theorem bf266_955 : am_fetch (am_mth 266) 955 = some (.iaload, 1, [], [5, 6, 7]) := by decide +kernel
theorem bf266_956 : am_fetch (am_mth 266) 956 = some (.aload_n 3, 1, [], [5, 6, 7]) := by decide +kernel
theorem bf266_957 : am_fetch (am_mth 266) 957 = some (.invokestatic 183, 3, [0, 257, 3, 827, 828, 45], [5, 6, 7]) := by decide +kernel
theorem bf266_960 : am_fetch (am_mth 266) 960 = some (.istore 5, 2, [], [5, 6, 7]) := by decide +kernel
theorem bf266_962 : am_fetch (am_mth 266) 962 = some (.aload_n 2, 1, [], [5, 6, 7]) := by decide +kernel
theorem bf266_963 : am_fetch (am_mth 266) 963 = some (.aload_n 0, 1, [], [5, 6, 7]) := by decide +kernel
theorem bf266_964 : am_fetch (am_mth 266) 964 = some (.iload 4, 2, [], [5, 6, 7]) := by decide +kernel
theorem bf266_966 : am_fetch (am_mth 266) 966 = some (.iconst 1, 1, [], [5, 6, 7]) := by decide +kernel
theorem bf266_967 : am_fetch (am_mth 266) 967 = some (.iadd, 1, [], [5, 6, 7]) := by decide +kernel
theorem bf266_968 : am_fetch (am_mth 266) 968 = some (.iaload, 1, [], [5, 6, 7]) := by decide +kernel
theorem bf266_969 : am_fetch (am_mth 266) 969 = some (.invokevirtual 185, 3, [0, 246, 1, 11, 1573, 1574, 1575, 48], [5, 6, 7]) := by decide +kernel
theorem bf266_972 : am_fetch (am_mth 266) 972 = some (.astore 6, 2, [], [5, 6, 7]) := by decide +kernel
theorem bf266_974 : am_fetch (am_mth 266) 974 = some (.goto 430, 3, [], [5, 6, 7]) := by decide +kernel
theorem bf266_977 : am_fetch (am_mth 266) 977 = some (.aload_n 1, 1, [], [5, 6, 7]) := by decide +kernel
theorem bf266_978 : am_fetch (am_mth 266) 978 = some (.aload_n 0, 1, [], [5, 6, 7]) := by decide +kernel
theorem bf266_979 : am_fetch (am_mth 266) 979 = some (.iload 4, 2, [], [5, 6, 7]) := by decide +kernel
theorem bf266_981 : am_fetch (am_mth 266) 981 = some (.iconst 1, 1, [], [5, 6, 7]) := by decide +kernel
theorem bf266_982 : am_fetch (am_mth 266) 982 = some (.iadd, 1, [], [5, 6, 7]) := by decide +kernel
theorem bf266_983 : am_fetch (am_mth 266) 983 = some (.iaload, 1, [], [5, 6, 7]) := by decide +kernel
theorem bf266_984 : am_fetch (am_mth 266) 984 = some (.aload_n 0, 1, [], [5, 6, 7]) := by decide +kernel
theorem bf266_985 : am_fetch (am_mth 266) 985 = some (.iload 4, 2, [], [5, 6, 7]) := by decide +kernel
theorem bf266_987 : am_fetch (am_mth 266) 987 = some (.iconst 2, 1, [], [5, 6, 7]) := by decide +kernel
theorem bf266_988 : am_fetch (am_mth 266) 988 = some (.iadd, 1, [], [5, 6, 7]) := by decide +kernel
theorem bf266_989 : am_fetch (am_mth 266) 989 = some (.iaload, 1, [], [5, 6, 7]) := by decide +kernel
theorem bf266_990 : am_fetch (am_mth 266) 990 = some (.aload_n 0, 1, [], [5, 6, 7]) := by decide +kernel
theorem bf266_991 : am_fetch (am_mth 266) 991 = some (.iload 4, 2, [], [5, 6, 7]) := by decide +kernel
theorem bf266_993 : am_fetch (am_mth 266) 993 = some (.iconst 3, 1, [], [5, 6, 7]) := by decide +kernel
theorem bf266_994 : am_fetch (am_mth 266) 994 = some (.iadd, 1, [], [5, 6, 7]) := by decide +kernel
theorem bf266_995 : am_fetch (am_mth 266) 995 = some (.iaload, 1, [], [5, 6, 7]) := by decide +kernel
theorem bf266_996 : am_fetch (am_mth 266) 996 = some (.aload_n 3, 1, [], [5, 6, 7]) := by decide +kernel
theorem bf266_997 : am_fetch (am_mth 266) 997 = some (.invokestatic 186, 3, [0, 191, 5, 1100, 1101, 45], [5, 6, 7]) := by decide +kernel
theorem bf266_1000 : am_fetch (am_mth 266) 1000 = some (.istore 5, 2, [], [5, 6, 7]) := by decide +kernel
theorem bf266_1002 : am_fetch (am_mth 266) 1002 = some (.aload_n 2, 1, [], [5, 6, 7]) := by decide +kernel
theorem bf266_1003 : am_fetch (am_mth 266) 1003 = some (.aload_n 0, 1, [], [5, 6, 7]) := by decide +kernel
theorem bf266_1004 : am_fetch (am_mth 266) 1004 = some (.iload 4, 2, [], [5, 6, 7]) := by decide +kernel
theorem bf266_1006 : am_fetch (am_mth 266) 1006 = some (.iconst 1, 1, [], [5, 6, 7]) := by decide +kernel
theorem bf266_1007 : am_fetch (am_mth 266) 1007 = some (.iadd, 1, [], [5, 6, 7]) := by decide +kernel
theorem bf266_1008 : am_fetch (am_mth 266) 1008 = some (.iaload, 1, [], [5, 6, 7]) := by decide +kernel
theorem bf266_1009 : am_fetch (am_mth 266) 1009 = some (.aload_n 0, 1, [], [5, 6, 7]) := by decide +kernel
theorem bf266_1010 : am_fetch (am_mth 266) 1010 = some (.iload 4, 2, [], [5, 6, 7]) := by decide +kernel
theorem bf266_1012 : am_fetch (am_mth 266) 1012 = some (.iconst 2, 1, [], [5, 6, 7]) := by decide +kernel
theorem bf266_1013 : am_fetch (am_mth 266) 1013 = some (.iadd, 1, [], [5, 6, 7]) := by decide +kernel
theorem bf266_1014 : am_fetch (am_mth 266) 1014 = some (.iaload, 1, [], [5, 6, 7]) := by decide +kernel
theorem bf266_1015 : am_fetch (am_mth 266) 1015 = some (.aload_n 0, 1, [], [5, 6, 7]) := by decide +kernel
theorem bf266_1016 : am_fetch (am_mth 266) 1016 = some (.iload 4, 2, [], [5, 6, 7]) := by decide +kernel
theorem bf266_1018 : am_fetch (am_mth 266) 1018 = some (.iconst 3, 1, [], [5, 6, 7]) := by decide +kernel
theorem bf266_1019 : am_fetch (am_mth 266) 1019 = some (.iadd, 1, [], [5, 6, 7]) := by decide +kernel
theorem bf266_1020 : am_fetch (am_mth 266) 1020 = some (.iaload, 1, [], [5, 6, 7]) := by decide +kernel
theorem bf266_1021 : am_fetch (am_mth 266) 1021 = some (.invokevirtual 188, 3, [0, 214, 3, 11, 1616, 1617, 1618, 48], [5, 6, 7]) := by decide +kernel
theorem bf266_1024 : am_fetch (am_mth 266) 1024 = some (.istore 6, 2, [], [5, 6, 7]) := by decide +kernel
theorem bf266_1026 : am_fetch (am_mth 266) 1026 = some (.goto 378, 3, [], [5, 6, 7]) := by decide +kernel
theorem bf266_1029 : am_fetch (am_mth 266) 1029 = some (.aload_n 1, 1, [], [5, 6, 7]) := by decide +kernel
theorem bf266_1030 : am_fetch (am_mth 266) 1030 = some (.aload_n 0, 1, [], [5, 6, 7]) := by decide +kernel
theorem bf266_1031 : am_fetch (am_mth 266) 1031 = some (.iload 4, 2, [], [5, 6, 7]) := by decide +kernel
theorem bf266_1033 : am_fetch (am_mth 266) 1033 = some (.iconst 1, 1, [], [5, 6, 7]) := by decide +kernel
theorem bf266_1034 : am_fetch (am_mth 266) 1034 = some (.iadd, 1, [], [5, 6, 7]) := by decide +kernel
theorem bf266_1035 : am_fetch (am_mth 266) 1035 = some (.iaload, 1, [], [5, 6, 7]) := by decide +kernel
theorem bf266_1036 : am_fetch (am_mth 266) 1036 = some (.aload_n 0, 1, [], [5, 6, 7]) := by decide +kernel
theorem bf266_1037 : am_fetch (am_mth 266) 1037 = some (.iload 4, 2, [], [5, 6, 7]) := by decide +kernel
theorem bf266_1039 : am_fetch (am_mth 266) 1039 = some (.iconst 2, 1, [], [5, 6, 7]) := by decide +kernel
theorem bf266_1040 : am_fetch (am_mth 266) 1040 = some (.iadd, 1, [], [5, 6, 7]) := by decide +kernel
theorem bf266_1041 : am_fetch (am_mth 266) 1041 = some (.iaload, 1, [], [5, 6, 7]) := by decide +kernel
theorem bf266_1042 : am_fetch (am_mth 266) 1042 = some (.aload_n 3, 1, [], [5, 6, 7]) := by decide +kernel
theorem bf266_1043 : am_fetch (am_mth 266) 1043 = some (.invokestatic 189, 3, [0, 192, 4, 1104, 1105, 45], [5, 6, 7]) := by decide +kernel
theorem bf266_1046 : am_fetch (am_mth 266) 1046 = some (.istore 5, 2, [], [5, 6, 7]) := by decide +kernel
theorem bf266_1048 : am_fetch (am_mth 266) 1048 = some (.aload_n 2, 1, [], [5, 6, 7]) := by decide +kernel
theorem bf266_1049 : am_fetch (am_mth 266) 1049 = some (.aload_n 0, 1, [], [5, 6, 7]) := by decide +kernel
theorem bf266_1050 : am_fetch (am_mth 266) 1050 = some (.iload 4, 2, [], [5, 6, 7]) := by decide +kernel
theorem bf266_1052 : am_fetch (am_mth 266) 1052 = some (.iconst 1, 1, [], [5, 6, 7]) := by decide +kernel
theorem bf266_1053 : am_fetch (am_mth 266) 1053 = some (.iadd, 1, [], [5, 6, 7]) := by decide +kernel
theorem bf266_1054 : am_fetch (am_mth 266) 1054 = some (.iaload, 1, [], [5, 6, 7]) := by decide +kernel
theorem bf266_1055 : am_fetch (am_mth 266) 1055 = some (.aload_n 0, 1, [], [5, 6, 7]) := by decide +kernel
theorem bf266_1056 : am_fetch (am_mth 266) 1056 = some (.iload 4, 2, [], [5, 6, 7]) := by decide +kernel
theorem bf266_1058 : am_fetch (am_mth 266) 1058 = some (.iconst 2, 1, [], [5, 6, 7]) := by decide +kernel
theorem bf266_1059 : am_fetch (am_mth 266) 1059 = some (.iadd, 1, [], [5, 6, 7]) := by decide +kernel
theorem bf266_1060 : am_fetch (am_mth 266) 1060 = some (.iaload, 1, [], [5, 6, 7]) := by decide +kernel
theorem bf266_1061 : am_fetch (am_mth 266) 1061 = some (.invokevirtual 191, 3, [0, 183, 2, 11, 1620, 1621, 1622, 48], [5, 6, 7]) := by decide +kernel
theorem bf266_1064 : am_fetch (am_mth 266) 1064 = some (.istore 6, 2, [], [5, 6, 7]) := by decide +kernel
theorem bf266_1066 : am_fetch (am_mth 266) 1066 = some (.goto 338, 3, [], [5, 6, 7]) := by decide +kernel
theorem bf266_1069 : am_fetch (am_mth 266) 1069 = some (.aload_n 1, 1, [], [5, 6, 7]) := by decide +kernel
theorem bf266_1070 : am_fetch (am_mth 266) 1070 = some (.aload_n 0, 1, [], [5, 6, 7]) := by decide +kernel
theorem bf266_1071 : am_fetch (am_mth 266) 1071 = some (.iload 4, 2, [], [5, 6, 7]) := by decide +kernel
theorem bf266_1073 : am_fetch (am_mth 266) 1073 = some (.iconst 1, 1, [], [5, 6, 7]) := by decide +kernel
theorem bf266_1074 : am_fetch (am_mth 266) 1074 = some (.iadd, 1, [], [5, 6, 7]) := by decide +kernel
theorem bf266_1075 : am_fetch (am_mth 266) 1075 = some (.iaload, 1, [], [5, 6, 7]) := by decide +kernel
theorem bf266_1076 : am_fetch (am_mth 266) 1076 = some (.aload_n 0, 1, [], [5, 6, 7]) := by decide +kernel
theorem bf266_1077 : am_fetch (am_mth 266) 1077 = some (.iload 4, 2, [], [5, 6, 7]) := by decide +kernel
theorem bf266_1079 : am_fetch (am_mth 266) 1079 = some (.iconst 2, 1, [], [5, 6, 7]) := by decide +kernel
theorem bf266_1080 : am_fetch (am_mth 266) 1080 = some (.iadd, 1, [], [5, 6, 7]) := by decide +kernel
theorem bf266_1081 : am_fetch (am_mth 266) 1081 = some (.iaload, 1, [], [5, 6, 7]) := by decide +kernel
theorem bf266_1082 : am_fetch (am_mth 266) 1082 = some (.aload_n 3, 1, [], [5, 6, 7]) := by decide +kernel
theorem bf266_1083 : am_fetch (am_mth 266) 1083 = some (.invokestatic 192, 3, [0, 193, 4, 1116, 1117, 45], [5, 6, 7]) := by decide +kernel
theorem bf266_1086 : am_fetch (am_mth 266) 1086 = some (.istore 5, 2, [], [5, 6, 7]) := by decide +kernel
theorem bf266_1088 : am_fetch (am_mth 266) 1088 = some (.aload_n 2, 1, [], [5, 6, 7]) := by decide +kernel
theorem bf266_1089 : am_fetch (am_mth 266) 1089 = some (.aload_n 0, 1, [], [5, 6, 7]) := by decide +kernel
theorem bf266_1090 : am_fetch (am_mth 266) 1090 = some (.iload 4, 2, [], [5, 6, 7]) := by decide +kernel
theorem bf266_1092 : am_fetch (am_mth 266) 1092 = some (.iconst 1, 1, [], [5, 6, 7]) := by decide +kernel
theorem bf266_1093 : am_fetch (am_mth 266) 1093 = some (.iadd, 1, [], [5, 6, 7]) := by decide +kernel
theorem bf266_1094 : am_fetch (am_mth 266) 1094 = some (.iaload, 1, [], [5, 6, 7]) := by decide +kernel
theorem bf266_1095 : am_fetch (am_mth 266) 1095 = some (.aload_n 0, 1, [], [5, 6, 7]) := by decide +kernel
theorem bf266_1096 : am_fetch (am_mth 266) 1096 = some (.iload 4, 2, [], [5, 6, 7]) := by decide +kernel
theorem bf266_1098 : am_fetch (am_mth 266) 1098 = some (.iconst 2, 1, [], [5, 6, 7]) := by decide +kernel
theorem bf266_1099 : am_fetch (am_mth 266) 1099 = some (.iadd, 1, [], [5, 6, 7]) := by decide +kernel
theorem bf266_1100 : am_fetch (am_mth 266) 1100 = some (.iaload, 1, [], [5, 6, 7]) := by decide +kernel
theorem bf266_1101 : am_fetch (am_mth 266) 1101 = some (.invokevirtual 194, 3, [0, 184, 2, 11, 1624, 1625, 1626, 48], [5, 6, 7]) := by decide +kernel
theorem bf266_1104 : am_fetch (am_mth 266) 1104 = some (.lstore 6, 2, [], [5, 6, 7]) := by decide +kernel
theorem bf266_1106 : am_fetch (am_mth 266) 1106 = some (.goto 298, 3, [], [5, 6, 7]) := by decide +kernel
theorem bf266_1109 : am_fetch (am_mth 266) 1109 = some (.aload_n 1, 1, [], [5, 6, 7]) := by decide +kernel
theorem bf266_1110 : am_fetch (am_mth 266) 1110 = some (.aload_n 0, 1, [], [5, 6, 7]) := by decide +kernel
theorem bf266_1111 : am_fetch (am_mth 266) 1111 = some (.iload 4, 2, [], [5, 6, 7]) := by decide +kernel
theorem bf266_1113 : am_fetch (am_mth 266) 1113 = some (.iconst 1, 1, [], [5, 6, 7]) := by decide +kernel
theorem bf266_1114 : am_fetch (am_mth 266) 1114 = some (.iadd, 1, [], [5, 6, 7]) := by decide +kernel
theorem bf266_1115 : am_fetch (am_mth 266) 1115 = some (.iaload, 1, [], [5, 6, 7]) := by decide +kernel
theorem bf266_1116 : am_fetch (am_mth 266) 1116 = some (.aload_n 0, 1, [], [5, 6, 7]) := by decide +kernel
theorem bf266_1117 : am_fetch (am_mth 266) 1117 = some (.iload 4, 2, [], [5, 6, 7]) := by decide +kernel
theorem bf266_1119 : am_fetch (am_mth 266) 1119 = some (.iconst 2, 1, [], [5, 6, 7]) := by decide +kernel
theorem bf266_1120 : am_fetch (am_mth 266) 1120 = some (.iadd, 1, [], [5, 6, 7]) := by decide +kernel
theorem bf266_1121 : am_fetch (am_mth 266) 1121 = some (.iaload, 1, [], [5, 6, 7]) := by decide +kernel
theorem bf266_1122 : am_fetch (am_mth 266) 1122 = some (.aload_n 0, 1, [], [5, 6, 7]) := by decide +kernel
theorem bf266_1123 : am_fetch (am_mth 266) 1123 = some (.iload 4, 2, [], [5, 6, 7]) := by decide +kernel
theorem bf266_1125 : am_fetch (am_mth 266) 1125 = some (.iconst 3, 1, [], [5, 6, 7]) := by decide +kernel
theorem bf266_1126 : am_fetch (am_mth 266) 1126 = some (.iadd, 1, [], [5, 6, 7]) := by decide +kernel
theorem bf266_1127 : am_fetch (am_mth 266) 1127 = some (.iaload, 1, [], [5, 6, 7]) := by decide +kernel
theorem bf266_1128 : am_fetch (am_mth 266) 1128 = some (.aload_n 3, 1, [], [5, 6, 7]) := by decide +kernel
theorem bf266_1129 : am_fetch (am_mth 266) 1129 = some (.invokestatic 195, 3, [0, 194, 5, 1120, 1121, 45], [5, 6, 7]) := by decide +kernel
theorem bf266_1132 : am_fetch (am_mth 266) 1132 = some (.istore 5, 2, [], [5, 6, 7]) := by decide +kernel
theorem bf266_1134 : am_fetch (am_mth 266) 1134 = some (.aload_n 2, 1, [], [5, 6, 7]) := by decide +kernel
theorem bf266_1135 : am_fetch (am_mth 266) 1135 = some (.aload_n 0, 1, [], [5, 6, 7]) := by decide +kernel
theorem bf266_1136 : am_fetch (am_mth 266) 1136 = some (.iload 4, 2, [], [5, 6, 7]) := by decide +kernel
theorem bf266_1138 : am_fetch (am_mth 266) 1138 = some (.iconst 1, 1, [], [5, 6, 7]) := by decide +kernel
theorem bf266_1139 : am_fetch (am_mth 266) 1139 = some (.iadd, 1, [], [5, 6, 7]) := by decide +kernel
theorem bf266_1140 : am_fetch (am_mth 266) 1140 = some (.iaload, 1, [], [5, 6, 7]) := by decide +kernel
theorem bf266_1141 : am_fetch (am_mth 266) 1141 = some (.aload_n 0, 1, [], [5, 6, 7]) := by decide +kernel
theorem bf266_1142 : am_fetch (am_mth 266) 1142 = some (.iload 4, 2, [], [5, 6, 7]) := by decide +kernel
theorem bf266_1144 : am_fetch (am_mth 266) 1144 = some (.iconst 2, 1, [], [5, 6, 7]) := by decide +kernel
theorem bf266_1145 : am_fetch (am_mth 266) 1145 = some (.iadd, 1, [], [5, 6, 7]) := by decide +kernel
theorem bf266_1146 : am_fetch (am_mth 266) 1146 = some (.iaload, 1, [], [5, 6, 7]) := by decide +kernel
theorem bf266_1147 : am_fetch (am_mth 266) 1147 = some (.aload_n 0, 1, [], [5, 6, 7]) := by decide +kernel
theorem bf266_1148 : am_fetch (am_mth 266) 1148 = some (.iload 4, 2, [], [5, 6, 7]) := by decide +kernel
theorem bf266_1150 : am_fetch (am_mth 266) 1150 = some (.iconst 3, 1, [], [5, 6, 7]) := by decide +kernel
theorem bf266_1151 : am_fetch (am_mth 266) 1151 = some (.iadd, 1, [], [5, 6, 7]) := by decide +kernel
theorem bf266_1152 : am_fetch (am_mth 266) 1152 = some (.iaload, 1, [], [5, 6, 7]) := by decide +kernel
theorem bf266_1153 : am_fetch (am_mth 266) 1153 = some (.invokevirtual 197, 3, [0, 228, 3, 11, 1632, 1633, 1634, 48], [5, 6, 7]) := by decide +kernel
theorem bf266_1156 : am_fetch (am_mth 266) 1156 = some (.istore 6, 2, [], [5, 6, 7]) := by decide +kernel
theorem bf266_1158 : am_fetch (am_mth 266) 1158 = some (.goto 246, 3, [], [5, 6, 7]) := by decide +kernel
theorem bf266_1161 : am_fetch (am_mth 266) 1161 = some (.aload_n 1, 1, [], [5, 6, 7]) := by decide +kernel
theorem bf266_1162 : am_fetch (am_mth 266) 1162 = some (.aload_n 0, 1, [], [5, 6, 7]) := by decide +kernel
theorem bf266_1163 : am_fetch (am_mth 266) 1163 = some (.iload 4, 2, [], [5, 6, 7]) := by decide +kernel
theorem bf266_1165 : am_fetch (am_mth 266) 1165 = some (.iconst 1, 1, [], [5, 6, 7]) := by decide +kernel
theorem bf266_1166 : am_fetch (am_mth 266) 1166 = some (.iadd, 1, [], [5, 6, 7]) := by decide +kernel
theorem bf266_1167 : am_fetch (am_mth 266) 1167 = some (.iaload, 1, [], [5, 6, 7]) := by decide +kernel
theorem bf266_1168 : am_fetch (am_mth 266) 1168 = some (.aload_n 0, 1, [], [5, 6, 7]) := by decide +kernel
theorem bf266_1169 : am_fetch (am_mth 266) 1169 = some (.iload 4, 2, [], [5, 6, 7]) := by decide +kernel
theorem bf266_1171 : am_fetch (am_mth 266) 1171 = some (.iconst 2, 1, [], [5, 6, 7]) := by decide +kernel
theorem bf266_1172 : am_fetch (am_mth 266) 1172 = some (.iadd, 1, [], [5, 6, 7]) := by decide +kernel
theorem bf266_1173 : am_fetch (am_mth 266) 1173 = some (.iaload, 1, [], [5, 6, 7]) := by decide +kernel
theorem bf266_1174 : am_fetch (am_mth 266) 1174 = some (.aload_n 3, 1, [], [5, 6, 7]) := by decide +kernel
theorem bf266_1175 : am_fetch (am_mth 266) 1175 = some (.invokestatic 198, 3, [0, 249, 4, 1128, 1129, 45], [5, 6, 7]) := by decide +kernel
theorem bf266_1178 : am_fetch (am_mth 266) 1178 = some (.istore 5, 2, [], [5, 6, 7]) := by decide +kernel
theorem bf266_1180 : am_fetch (am_mth 266) 1180 = some (.aload_n 2, 1, [], [5, 6, 7]) := by decide +kernel
theorem bf266_1181 : am_fetch (am_mth 266) 1181 = some (.aload_n 0, 1, [], [5, 6, 7]) := by decide +kernel
theorem bf266_1182 : am_fetch (am_mth 266) 1182 = some (.iload 4, 2, [], [5, 6, 7]) := by decide +kernel
theorem bf266_1184 : am_fetch (am_mth 266) 1184 = some (.iconst 1, 1, [], [5, 6, 7]) := by decide +kernel
theorem bf266_1185 : am_fetch (am_mth 266) 1185 = some (.iadd, 1, [], [5, 6, 7]) := by decide +kernel
theorem bf266_1186 : am_fetch (am_mth 266) 1186 = some (.iaload, 1, [], [5, 6, 7]) := by decide +kernel
theorem bf266_1187 : am_fetch (am_mth 266) 1187 = some (.aload_n 0, 1, [], [5, 6, 7]) := by decide +kernel
theorem bf266_1188 : am_fetch (am_mth 266) 1188 = some (.iload 4, 2, [], [5, 6, 7]) := by decide +kernel
theorem bf266_1190 : am_fetch (am_mth 266) 1190 = some (.iconst 2, 1, [], [5, 6, 7]) := by decide +kernel
theorem bf266_1191 : am_fetch (am_mth 266) 1191 = some (.iadd, 1, [], [5, 6, 7]) := by decide +kernel
theorem bf266_1192 : am_fetch (am_mth 266) 1192 = some (.iaload, 1, [], [5, 6, 7]) := by decide +kernel
theorem bf266_1193 : am_fetch (am_mth 266) 1193 = some (.invokevirtual 200, 3, [0, 264, 2, 11, 1636, 1637, 1638, 48], [5, 6, 7]) := by decide +kernel
theorem bf266_1196 : am_fetch (am_mth 266) 1196 = some (.istore 6, 2, [], [5, 6, 7]) := by decide +kernel
theorem bf266_1198 : am_fetch (am_mth 266) 1198 = some (.goto 206, 3, [], [5, 6, 7]) := by decide +kernel
theorem bf266_1201 : am_fetch (am_mth 266) 1201 = some (.aload_n 1, 1, [], [5, 6, 7]) := by decide +kernel
theorem bf266_1202 : am_fetch (am_mth 266) 1202 = some (.aload_n 0, 1, [], [5, 6, 7]) := by decide +kernel
theorem bf266_1203 : am_fetch (am_mth 266) 1203 = some (.iload 4, 2, [], [5, 6, 7]) := by decide +kernel
theorem bf266_1205 : am_fetch (am_mth 266) 1205 = some (.iconst 1, 1, [], [5, 6, 7]) := by decide +kernel
theorem bf266_1206 : am_fetch (am_mth 266) 1206 = some (.iadd, 1, [], [5, 6, 7]) := by decide +kernel
theorem bf266_1207 : am_fetch (am_mth 266) 1207 = some (.iaload, 1, [], [5, 6, 7]) := by decide +kernel
theorem bf266_1208 : am_fetch (am_mth 266) 1208 = some (.aload_n 3, 1, [], [5, 6, 7]) := by decide +kernel
theorem bf266_1209 : am_fetch (am_mth 266) 1209 = some (.invokestatic 201, 3, [0, 148, 3, 1132, 1133, 45], [5, 6, 7]) := by decide +kernel
theorem bf266_1212 : am_fetch (am_mth 266) 1212 = some (.istore 5, 2, [], [5, 6, 7]) := by decide +kernel
theorem bf266_1214 : am_fetch (am_mth 266) 1214 = some (.aload_n 2, 1, [], [5, 6, 7]) := by decide +kernel
theorem bf266_1215 : am_fetch (am_mth 266) 1215 = some (.aload_n 0, 1, [], [5, 6, 7]) := by decide +kernel
theorem bf266_1216 : am_fetch (am_mth 266) 1216 = some (.iload 4, 2, [], [5, 6, 7]) := by decide +kernel
theorem bf266_1218 : am_fetch (am_mth 266) 1218 = some (.iconst 1, 1, [], [5, 6, 7]) := by decide +kernel
theorem bf266_1219 : am_fetch (am_mth 266) 1219 = some (.iadd, 1, [], [5, 6, 7]) := by decide +kernel
theorem bf266_1220 : am_fetch (am_mth 266) 1220 = some (.iaload, 1, [], [5, 6, 7]) := by decide +kernel
theorem bf266_1221 : am_fetch (am_mth 266) 1221 = some (.invokevirtual 203, 3, [0, 185, 1, 11, 1648, 1649, 1650, 48], [5, 6, 7]) := by decide +kernel
theorem bf266_1224 : am_fetch (am_mth 266) 1224 = some (.dstore 6, 2, [], [5, 6, 7]) := by decide +kernel
theorem bf266_1226 : am_fetch (am_mth 266) 1226 = some (.goto 178, 3, [], [5, 6, 7]) := by decide +kernel
theorem bf266_1229 : am_fetch (am_mth 266) 1229 = some (.aload_n 1, 1, [], [5, 6, 7]) := by decide +kernel
theorem bf266_1230 : am_fetch (am_mth 266) 1230 = some (.aload_n 0, 1, [], [5, 6, 7]) := by decide +kernel
theorem bf266_1231 : am_fetch (am_mth 266) 1231 = some (.iload 4, 2, [], [5, 6, 7]) := by decide +kernel
theorem bf266_1233 : am_fetch (am_mth 266) 1233 = some (.iconst 1, 1, [], [5, 6, 7]) := by decide +kernel
theorem bf266_1234 : am_fetch (am_mth 266) 1234 = some (.iadd, 1, [], [5, 6, 7]) := by decide +kernel
theorem bf266_1235 : am_fetch (am_mth 266) 1235 = some (.iaload, 1, [], [5, 6, 7]) := by decide +kernel
theorem bf266_1236 : am_fetch (am_mth 266) 1236 = some (.aload_n 0, 1, [], [5, 6, 7]) := by decide +kernel
theorem bf266_1237 : am_fetch (am_mth 266) 1237 = some (.iload 4, 2, [], [5, 6, 7]) := by decide +kernel
theorem bf266_1239 : am_fetch (am_mth 266) 1239 = some (.iconst 2, 1, [], [5, 6, 7]) := by decide +kernel
theorem bf266_1240 : am_fetch (am_mth 266) 1240 = some (.iadd, 1, [], [5, 6, 7]) := by decide +kernel
theorem bf266_1241 : am_fetch (am_mth 266) 1241 = some (.iaload, 1, [], [5, 6, 7]) := by decide +kernel
theorem bf266_1242 : am_fetch (am_mth 266) 1242 = some (.aload_n 3, 1, [], [5, 6, 7]) := by decide +kernel
theorem bf266_1243 : am_fetch (am_mth 266) 1243 = some (.invokestatic 204, 3, [0, 235, 4, 1136, 1137, 45], [5, 6, 7]) := by decide +kernel
theorem bf266_1246 : am_fetch (am_mth 266) 1246 = some (.istore 5, 2, [], [5, 6, 7]) := by decide +kernel
theorem bf266_1248 : am_fetch (am_mth 266) 1248 = some (.aload_n 2, 1, [], [5, 6, 7]) := by decide +kernel
theorem bf266_1249 : am_fetch (am_mth 266) 1249 = some (.aload_n 0, 1, [], [5, 6, 7]) := by decide +kernel
theorem bf266_1250 : am_fetch (am_mth 266) 1250 = some (.iload 4, 2, [], [5, 6, 7]) := by decide +kernel
theorem bf266_1252 : am_fetch (am_mth 266) 1252 = some (.iconst 1, 1, [], [5, 6, 7]) := by decide +kernel
theorem bf266_1253 : am_fetch (am_mth 266) 1253 = some (.iadd, 1, [], [5, 6, 7]) := by decide +kernel
theorem bf266_1254 : am_fetch (am_mth 266) 1254 = some (.iaload, 1, [], [5, 6, 7]) := by decide +kernel
theorem bf266_1255 : am_fetch (am_mth 266) 1255 = some (.aload_n 0, 1, [], [5, 6, 7]) := by decide +kernel
theorem bf266_1256 : am_fetch (am_mth 266) 1256 = some (.iload 4, 2, [], [5, 6, 7]) := by decide +kernel
theorem bf266_1258 : am_fetch (am_mth 266) 1258 = some (.iconst 2, 1, [], [5, 6, 7]) := by decide +kernel
theorem bf266_1259 : am_fetch (am_mth 266) 1259 = some (.iadd, 1, [], [5, 6, 7]) := by decide +kernel
theorem bf266_1260 : am_fetch (am_mth 266) 1260 = some (.iaload, 1, [], [5, 6, 7]) := by decide +kernel
theorem bf266_1261 : am_fetch (am_mth 266) 1261 = some (.invokevirtual 206, 3, [0, 247, 2, 11, 1657, 1658, 1659, 48], [5, 6, 7]) := by decide +kernel
theorem bf266_1264 : am_fetch (am_mth 266) 1264 = some (.istore 6, 2, [], [5, 6, 7]) := by decide +kernel
theorem bf266_1266 : am_fetch (am_mth 266) 1266 = some (.goto 138, 3, [], [5, 6, 7]) := by decide +kernel
theorem bf266_1269 : am_fetch (am_mth 266) 1269 = some (.aload_n 1, 1, [], [5, 6, 7]) := by decide +kernel
theorem bf266_1270 : am_fetch (am_mth 266) 1270 = some (.aload_n 0, 1, [], [5, 6, 7]) := by decide +kernel
theorem bf266_1271 : am_fetch (am_mth 266) 1271 = some (.iload 4, 2, [], [5, 6, 7]) := by decide +kernel
theorem bf266_1273 : am_fetch (am_mth 266) 1273 = some (.iconst 1, 1, [], [5, 6, 7]) := by decide +kernel
theorem bf266_1274 : am_fetch (am_mth 266) 1274 = some (.iadd, 1, [], [5, 6, 7]) := by decide +kernel
theorem bf266_1275 : am_fetch (am_mth 266) 1275 = some (.iaload, 1, [], [5, 6, 7]) := by decide +kernel
theorem bf266_1276 : am_fetch (am_mth 266) 1276 = some (.aload_n 3, 1, [], [5, 6, 7]) := by decide +kernel
theorem bf266_1277 : am_fetch (am_mth 266) 1277 = some (.invokestatic 207, 3, [0, 236, 3, 1140, 1141, 45], [5, 6, 7]) := by decide +kernel
theorem bf266_1280 : am_fetch (am_mth 266) 1280 = some (.istore 5, 2, [], [5, 6, 7]) := by decide +kernel
theorem bf266_1282 : am_fetch (am_mth 266) 1282 = some (.aload_n 2, 1, [], [5, 6, 7]) := by decide +kernel
theorem bf266_1283 : am_fetch (am_mth 266) 1283 = some (.aload_n 0, 1, [], [5, 6, 7]) := by decide +kernel
theorem bf266_1284 : am_fetch (am_mth 266) 1284 = some (.iload 4, 2, [], [5, 6, 7]) := by decide +kernel
theorem bf266_1286 : am_fetch (am_mth 266) 1286 = some (.iconst 1, 1, [], [5, 6, 7]) := by decide +kernel
theorem bf266_1287 : am_fetch (am_mth 266) 1287 = some (.iadd, 1, [], [5, 6, 7]) := by decide +kernel
theorem bf266_1288 : am_fetch (am_mth 266) 1288 = some (.iaload, 1, [], [5, 6, 7]) := by decide +kernel
theorem bf266_1289 : am_fetch (am_mth 266) 1289 = some (.invokevirtual 209, 3, [0, 252, 1, 11, 1666, 1667, 1668, 48], [5, 6, 7]) := by decide +kernel
theorem bf266_1292 : am_fetch (am_mth 266) 1292 = some (.istore 6, 2, [], [5, 6, 7]) := by decide +kernel
theorem bf266_1294 : am_fetch (am_mth 266) 1294 = some (.goto 110, 3, [], [5, 6, 7]) := by decide +kernel
theorem bf266_1297 : am_fetch (am_mth 266) 1297 = some (.aload_n 1, 1, [], [5, 6, 7]) := by decide +kernel
theorem bf266_1298 : am_fetch (am_mth 266) 1298 = some (.aload_n 0, 1, [], [5, 6, 7]) := by decide +kernel
theorem bf266_1299 : am_fetch (am_mth 266) 1299 = some (.iload 4, 2, [], [5, 6, 7]) := by decide +kernel
theorem bf266_1301 : am_fetch (am_mth 266) 1301 = some (.iconst 1, 1, [], [5, 6, 7]) := by decide +kernel
theorem bf266_1302 : am_fetch (am_mth 266) 1302 = some (.iadd, 1, [], [5, 6, 7]) := by decide +kernel
theorem bf266_1303 : am_fetch (am_mth 266) 1303 = some (.iaload, 1, [], [5, 6, 7]) := by decide +kernel
theorem bf266_1304 : am_fetch (am_mth 266) 1304 = some (.aload_n 0, 1, [], [5, 6, 7]) := by decide +kernel
theorem bf266_1305 : am_fetch (am_mth 266) 1305 = some (.iload 4, 2, [], [5, 6, 7]) := by decide +kernel
theorem bf266_1307 : am_fetch (am_mth 266) 1307 = some (.iconst 2, 1, [], [5, 6, 7]) := by decide +kernel
theorem bf266_1308 : am_fetch (am_mth 266) 1308 = some (.iadd, 1, [], [5, 6, 7]) := by decide +kernel
theorem bf266_1309 : am_fetch (am_mth 266) 1309 = some (.iaload, 1, [], [5, 6, 7]) := by decide +kernel
theorem bf266_1310 : am_fetch (am_mth 266) 1310 = some (.aload_n 3, 1, [], [5, 6, 7]) := by decide +kernel
theorem bf266_1311 : am_fetch (am_mth 266) 1311 = some (.invokestatic 210, 3, [0, 220, 4, 1144, 1145, 45], [5, 6, 7]) := by decide +kernel
theorem bf266_1314 : am_fetch (am_mth 266) 1314 = some (.istore 5, 2, [], [5, 6, 7]) := by decide +kernel
theorem bf266_1316 : am_fetch (am_mth 266) 1316 = some (.aload_n 2, 1, [], [5, 6, 7]) := by decide +kernel
theorem bf266_1317 : am_fetch (am_mth 266) 1317 = some (.aload_n 0, 1, [], [5, 6, 7]) := by decide +kernel
theorem bf266_1318 : am_fetch (am_mth 266) 1318 = some (.iload 4, 2, [], [5, 6, 7]) := by decide +kernel
theorem bf266_1320 : am_fetch (am_mth 266) 1320 = some (.iconst 1, 1, [], [5, 6, 7]) := by decide +kernel
theorem bf266_1321 : am_fetch (am_mth 266) 1321 = some (.iadd, 1, [], [5, 6, 7]) := by decide +kernel
theorem bf266_1322 : am_fetch (am_mth 266) 1322 = some (.iaload, 1, [], [5, 6, 7]) := by decide +kernel
theorem bf266_1323 : am_fetch (am_mth 266) 1323 = some (.aload_n 0, 1, [], [5, 6, 7]) := by decide +kernel
theorem bf266_1324 : am_fetch (am_mth 266) 1324 = some (.iload 4, 2, [], [5, 6, 7]) := by decide +kernel
theorem bf266_1326 : am_fetch (am_mth 266) 1326 = some (.iconst 2, 1, [], [5, 6, 7]) := by decide +kernel
theorem bf266_1327 : am_fetch (am_mth 266) 1327 = some (.iadd, 1, [], [5, 6, 7]) := by decide +kernel
theorem bf266_1328 : am_fetch (am_mth 266) 1328 = some (.iaload, 1, [], [5, 6, 7]) := by decide +kernel
theorem bf266_1329 : am_fetch (am_mth 266) 1329 = some (.invokevirtual 212, 3, [0, 231, 2, 11, 1674, 1675, 1676, 48], [5, 6, 7]) := by decide +kernel
theorem bf266_1332 : am_fetch (am_mth 266) 1332 = some (.istore 6, 2, [], [5, 6, 7]) := by decide +kernel
theorem bf266_1334 : am_fetch (am_mth 266) 1334 = some (.goto 70, 3, [], [5, 6, 7]) := by decide +kernel
theorem bf266_1337 : am_fetch (am_mth 266) 1337 = some (.aload_n 1, 1, [], [5, 6, 7]) := by decide +kernel
theorem bf266_1338 : am_fetch (am_mth 266) 1338 = some (.aload_n 0, 1, [], [5, 6, 7]) := by decide +kernel
theorem bf266_1339 : am_fetch (am_mth 266) 1339 = some (.iload 4, 2, [], [5, 6, 7]) := by decide +kernel
theorem bf266_1341 : am_fetch (am_mth 266) 1341 = some (.iconst 1, 1, [], [5, 6, 7]) := by decide +kernel
theorem bf266_1342 : am_fetch (am_mth 266) 1342 = some (.iadd, 1, [], [5, 6, 7]) := by decide +kernel
theorem bf266_1343 : am_fetch (am_mth 266) 1343 = some (.iaload, 1, [], [5, 6, 7]) := by decide +kernel
theorem bf266_1344 : am_fetch (am_mth 266) 1344 = some (.aload_n 0, 1, [], [5, 6, 7]) := by decide +kernel
theorem bf266_1345 : am_fetch (am_mth 266) 1345 = some (.iload 4, 2, [], [5, 6, 7]) := by decide +kernel
theorem bf266_1347 : am_fetch (am_mth 266) 1347 = some (.iconst 2, 1, [], [5, 6, 7]) := by decide +kernel
theorem bf266_1348 : am_fetch (am_mth 266) 1348 = some (.iadd, 1, [], [5, 6, 7]) := by decide +kernel
theorem bf266_1349 : am_fetch (am_mth 266) 1349 = some (.iaload, 1, [], [5, 6, 7]) := by decide +kernel
theorem bf266_1350 : am_fetch (am_mth 266) 1350 = some (.aload_n 3, 1, [], [5, 6, 7]) := by decide +kernel
theorem bf266_1351 : am_fetch (am_mth 266) 1351 = some (.invokestatic 213, 3, [0, 237, 4, 1152, 1153, 45], [5, 6, 7]) := by decide +kernel
theorem bf266_1354 : am_fetch (am_mth 266) 1354 = some (.istore 5, 2, [], [5, 6, 7]) := by decide +kernel
theorem bf266_1356 : am_fetch (am_mth 266) 1356 = some (.aload_n 2, 1, [], [5, 6, 7]) := by decide +kernel
theorem bf266_1357 : am_fetch (am_mth 266) 1357 = some (.aload_n 0, 1, [], [5, 6, 7]) := by decide +kernel
theorem bf266_1358 : am_fetch (am_mth 266) 1358 = some (.iload 4, 2, [], [5, 6, 7]) := by decide +kernel
theorem bf266_1360 : am_fetch (am_mth 266) 1360 = some (.iconst 1, 1, [], [5, 6, 7]) := by decide +kernel
theorem bf266_1361 : am_fetch (am_mth 266) 1361 = some (.iadd, 1, [], [5, 6, 7]) := by decide +kernel
theorem bf266_1362 : am_fetch (am_mth 266) 1362 = some (.iaload, 1, [], [5, 6, 7]) := by decide +kernel
theorem bf266_1363 : am_fetch (am_mth 266) 1363 = some (.aload_n 0, 1, [], [5, 6, 7]) := by decide +kernel
theorem bf266_1364 : am_fetch (am_mth 266) 1364 = some (.iload 4, 2, [], [5, 6, 7]) := by decide +kernel
theorem bf266_1366 : am_fetch (am_mth 266) 1366 = some (.iconst 2, 1, [], [5, 6, 7]) := by decide +kernel
theorem bf266_1367 : am_fetch (am_mth 266) 1367 = some (.iadd, 1, [], [5, 6, 7]) := by decide +kernel
theorem bf266_1368 : am_fetch (am_mth 266) 1368 = some (.iaload, 1, [], [5, 6, 7]) := by decide +kernel
theorem bf266_1369 : am_fetch (am_mth 266) 1369 = some (.invokevirtual 215, 3, [0, 232, 2, 11, 1678, 1679, 1680, 48], [5, 6, 7]) := by decide +kernel
theorem bf266_1372 : am_fetch (am_mth 266) 1372 = some (.istore 6, 2, [], [5, 6, 7]) := by decide +kernel
theorem bf266_1374 : am_fetch (am_mth 266) 1374 = some (.goto 30, 3, [], [5, 6, 7]) := by decide +kernel
theorem bf266_1377 : am_fetch (am_mth 266) 1377 = some (.aload_n 1, 1, [], [5, 6, 7]) := by decide +kernel
theorem bf266_1378 : am_fetch (am_mth 266) 1378 = some (.invokevirtual 216, 3, [0, 224, 0, 8, 143, 144, 145, 46], [5, 6, 7]) := by decide +kernel
theorem bf266_1381 : am_fetch (am_mth 266) 1381 = some (.pop, 1, [], [5, 6, 7]) := by decide +kernel
theorem bf266_1382 : am_fetch (am_mth 266) 1382 = some (.aload_n 2, 1, [], [5, 6, 7]) := by decide +kernel
theorem bf266_1383 : am_fetch (am_mth 266) 1383 = some (.invokevirtual 220, 3, [0, 215, 0, 11, 1682, 1683, 1684, 48], [5, 6, 7]) := by decide +kernel
theorem bf266_1386 : am_fetch (am_mth 266) 1386 = some (.pop, 1, [], [5, 6, 7]) := by decide +kernel
theorem bf266_1387 : am_fetch (am_mth 266) 1387 = some (.goto 17, 3, [], [5, 6, 7]) := by decide +kernel
theorem bf266_1390 : am_fetch (am_mth 266) 1390 = some (.aload_n 1, 1, [], [5, 6, 7]) := by decide +kernel
theorem bf266_1391 : am_fetch (am_mth 266) 1391 = some (.invokevirtual 221, 3, [0, 250, 0, 8, 211, 212, 213, 46], [5, 6, 7]) := by decide +kernel
theorem bf266_1394 : am_fetch (am_mth 266) 1394 = some (.aload_n 2, 1, [], [5, 6, 7]) := by decide +kernel
theorem bf266_1395 : am_fetch (am_mth 266) 1395 = some (.invokevirtual 225, 3, [0, 265, 0, 11, 1690, 1691, 1692, 48], [5, 6, 7]) := by decide +kernel
theorem bf266_1398 : am_fetch (am_mth 266) 1398 = some (.lcmp, 1, [], [5, 6, 7]) := by decide +kernel
theorem bf266_1399 : am_fetch (am_mth 266) 1399 = some (.ifCond .eq 5, 3, [], [5, 6, 7]) := by decide +kernel
theorem bf266_1402 : am_fetch (am_mth 266) 1402 = some (.iconst 0, 1, [], [0, 1, 2, 3, 4, 5, 6, 7]) := by decide +kernel
theorem bf266_1403 : am_fetch (am_mth 266) 1403 = some (.ireturn, 1, [1], [0, 1, 2, 3, 4, 5, 6, 7]) := by decide +kernel
theorem bf266_1404 : am_fetch (am_mth 266) 1404 = some (.iinc 4 5, 3, [], [5, 6, 7]) := by decide +kernel
theorem bf266_1407 : am_fetch (am_mth 266) 1407 = some (.goto (-1380), 3, [], [5, 6, 7]) := by decide +kernel
theorem bf266_1410 : am_fetch (am_mth 266) 1410 = some (.iconst 1, 1, [], [0, 1, 2, 3, 4, 5, 6, 7]) := by decide +kernel
theorem bf266_1411 : am_fetch (am_mth 266) 1411 = some (.ireturn, 1, [1], [0, 1, 2, 3, 4, 5, 6, 7]) := by decide +kernel
theorem bk266_0 {w : am_Wd} {l0 : Nat} : am_run 266 0 [some (.ref l0), none, none, none, none, none, none, none] [] w = am_run 266 3 [some (.ref l0), none, none, none, none, none, none, none] (.ref w.2.1 :: []) (am_nw w (.inr (8, am_df 8 9)) 9) := by
  exact bn bf266_0 bf266_3 rfl rfl (am_ge_nw _ _ _)
theorem bk266_3 {w : am_Wd} {l0 : Nat} {s0 : Nat} : am_run 266 3 [some (.ref l0), none, none, none, none, none, none, none] [.ref s0] w = (am_x 89 [.ref s0] w).bind fun r => bct r fun v w' => am_run 266 7 [some (.ref l0), none, none, none, none, none, none, none] (v.toList ++ [.ref s0]) w' := by
  refine (bu (ls'' := [some (.ref l0), none, none, none, none, none, none, none]) (st' := [.ref s0, .ref s0]) bf266_3 bf266_4 rfl rfl).trans ?_
  exact bkS bf266_4 bf266_7 rfl (by decide +kernel) (Nat.le_of_ble_eq_true rfl) rfl (bhd rfl)
theorem bk266_7 {w : am_Wd} {l0 : Nat} {s0 : Nat} : am_run 266 7 [some (.ref l0), none, none, none, none, none, none, none] [.ref s0] w = am_run 266 11 [some (.ref l0), some (.ref s0), none, none, none, none, none, none] (.ref w.2.1 :: []) (am_nw w (.inr (11, am_df 11 12)) 12) := by
  refine (bu (ls'' := [some (.ref l0), some (.ref s0), none, none, none, none, none, none]) (st' := []) bf266_7 bf266_8 rfl rfl).trans ?_
  exact bn bf266_8 bf266_11 rfl rfl (am_ge_nw _ _ _)
theorem bk266_11 {w : am_Wd} {l0 : Nat} {l1 : Nat} {s0 : Nat} : am_run 266 11 [some (.ref l0), some (.ref l1), none, none, none, none, none, none] [.ref s0] w = (am_x 172 [.ref s0] w).bind fun r => bct r fun v w' => am_run 266 15 [some (.ref l0), some (.ref l1), none, none, none, none, none, none] (v.toList ++ [.ref s0]) w' := by
  refine (bu (ls'' := [some (.ref l0), some (.ref l1), none, none, none, none, none, none]) (st' := [.ref s0, .ref s0]) bf266_11 bf266_12 rfl rfl).trans ?_
  exact bkS bf266_12 bf266_15 rfl (by decide +kernel) (Nat.le_of_ble_eq_true rfl) rfl (bhd rfl)
theorem bk266_15 {w : am_Wd} {l0 : Nat} {l1 : Nat} {s0 : Nat} : am_run 266 15 [some (.ref l0), some (.ref l1), none, none, none, none, none, none] [.ref s0] w = am_run 266 19 [some (.ref l0), some (.ref l1), some (.ref s0), none, none, none, none, none] (.ref w.2.1 :: []) (am_nw w (.inr (9, am_df 9 3)) 3) := by
  refine (bu (ls'' := [some (.ref l0), some (.ref l1), some (.ref s0), none, none, none, none, none]) (st' := []) bf266_15 bf266_16 rfl rfl).trans ?_
  exact bn bf266_16 bf266_19 rfl rfl (am_ge_nw _ _ _)
theorem bk266_19 {w : am_Wd} {l0 : Nat} {l1 : Nat} {l2 : Nat} {s0 : Nat} : am_run 266 19 [some (.ref l0), some (.ref l1), some (.ref l2), none, none, none, none, none] [.ref s0] w = (am_x 35 [.ref s0] w).bind fun r => bct r fun v w' => am_run 266 23 [some (.ref l0), some (.ref l1), some (.ref l2), none, none, none, none, none] (v.toList ++ [.ref s0]) w' := by
  refine (bu (ls'' := [some (.ref l0), some (.ref l1), some (.ref l2), none, none, none, none, none]) (st' := [.ref s0, .ref s0]) bf266_19 bf266_20 rfl rfl).trans ?_
  exact bkS bf266_20 bf266_23 rfl (by decide +kernel) (Nat.le_of_ble_eq_true rfl) rfl (bhd rfl)
theorem bk266_23 {w : am_Wd} {l0 : Nat} {l1 : Nat} {l2 : Nat} {s0 : Nat} : am_run 266 23 [some (.ref l0), some (.ref l1), some (.ref l2), none, none, none, none, none] [.ref s0] w = am_run 266 27 [some (.ref l0), some (.ref l1), some (.ref l2), some (.ref s0), some (.int (nI 0)), none, none, none] [] w := by
  refine (bu (ls'' := [some (.ref l0), some (.ref l1), some (.ref l2), some (.ref s0), none, none, none, none]) (st' := []) bf266_23 bf266_24 rfl rfl).trans ?_
  refine (bu (ls'' := [some (.ref l0), some (.ref l1), some (.ref l2), some (.ref s0), none, none, none, none]) (st' := [.int (nI 0)]) bf266_24 bf266_25 rfl rfl).trans ?_
  refine (bu (ls'' := [some (.ref l0), some (.ref l1), some (.ref l2), some (.ref s0), some (.int (nI 0)), none, none, none]) (st' := []) bf266_25 bf266_27 rfl rfl).trans ?_
  rfl
theorem bk266_27 {w : am_Wd} {l0 : Nat} {l1 : Nat} {l2 : Nat} {l3 : Nat} {l4 : Int32} : am_run 266 27 [some (.ref l0), some (.ref l1), some (.ref l2), some (.ref l3), some (.int l4), none, none, none] [] w = (am_len w l0).bind fun v => am_run 266 31 [some (.ref l0), some (.ref l1), some (.ref l2), some (.ref l3), some (.int l4), none, none, none] (.int (nI v) :: [.int l4]) w := by
  refine (bu (ls'' := [some (.ref l0), some (.ref l1), some (.ref l2), some (.ref l3), some (.int l4), none, none, none]) (st' := [.int l4]) bf266_27 bf266_29 rfl rfl).trans ?_
  refine (bu (ls'' := [some (.ref l0), some (.ref l1), some (.ref l2), some (.ref l3), some (.int l4), none, none, none]) (st' := [.ref l0, .int l4]) bf266_29 bf266_30 rfl rfl).trans ?_
  exact bh bf266_30 bf266_31 rfl (fun _ _ => am_ge_rf w) rfl
theorem bk266_31 {w : am_Wd} {l0 : Nat} {l1 : Nat} {l2 : Nat} {l3 : Nat} {l4 : Int32} {s0 : Int32} {s1 : Int32} : am_run 266 31 [some (.ref l0), some (.ref l1), some (.ref l2), some (.ref l3), some (.int l4), none, none, none] [.int s0, .int s1] w = if (s0 - (nI 5)) < s1 then am_run 266 1410 [none, none, none, none, none, none, none, none] [] w else am_run 266 36 [some (.ref l0), some (.ref l1), some (.ref l2), some (.ref l3), some (.int l4), none, none, none] [] w := by
  refine (bu (ls'' := [some (.ref l0), some (.ref l1), some (.ref l2), some (.ref l3), some (.int l4), none, none, none]) (st' := [.int (nI 5), .int s0, .int s1]) bf266_31 bf266_32 rfl rfl).trans ?_
  refine (bu (ls'' := [some (.ref l0), some (.ref l1), some (.ref l2), some (.ref l3), some (.int l4), none, none, none]) (st' := [.int (s0 - (nI 5)), .int s1]) bf266_32 bf266_33 rfl rfl).trans ?_
  exact bic bf266_33 rfl bf266_1410 bf266_36 rfl rfl rfl
theorem bk266_1410 {w : am_Wd}  : am_run 266 1410 [none, none, none, none, none, none, none, none] [] w = some (.inl (some (.int (nI 1))), w) := by
  refine (bu (ls'' := [none, none, none, none, none, none, none, none]) (st' := [.int (nI 1)]) bf266_1410 bf266_1411 rfl rfl).trans ?_
  exact am_e2 bf266_1411 rfl (am_ge_rf w)
theorem bk266_36 {w : am_Wd} {l0 : Nat} {l1 : Nat} {l2 : Nat} {l3 : Nat} {l4 : Int32} : am_run 266 36 [some (.ref l0), some (.ref l1), some (.ref l2), some (.ref l3), some (.int l4), none, none, none] [] w = (am_ri 0 w l0 l4).bind fun v => am_run 266 40 [some (.ref l0), some (.ref l1), some (.ref l2), some (.ref l3), some (.int l4), none, none, none] (.int v :: []) w := by
  refine (bu (ls'' := [some (.ref l0), some (.ref l1), some (.ref l2), some (.ref l3), some (.int l4), none, none, none]) (st' := [.ref l0]) bf266_36 bf266_37 rfl rfl).trans ?_
  refine (bu (ls'' := [some (.ref l0), some (.ref l1), some (.ref l2), some (.ref l3), some (.int l4), none, none, none]) (st' := [.int l4, .ref l0]) bf266_37 bf266_39 rfl rfl).trans ?_
  exact bh bf266_39 bf266_40 rfl (fun _ _ => am_ge_rf w) rfl
theorem bk266_40 {w : am_Wd} {l0 : Nat} {l1 : Nat} {l2 : Nat} {l3 : Nat} {l4 : Int32} {s0 : Int32} : am_run 266 40 [some (.ref l0), some (.ref l1), some (.ref l2), some (.ref l3), some (.int l4), none, none, none] [.int s0] w = if (s0 &&& (nI 31)) = (nI 0) then am_run 266 172 [some (.ref l0), some (.ref l1), some (.ref l2), some (.ref l3), some (.int l4), none, none, none] [] w else if (s0 &&& (nI 31)) = (nI 1) then am_run 266 236 [some (.ref l0), some (.ref l1), some (.ref l2), some (.ref l3), some (.int l4), none, none, none] [] w else if (s0 &&& (nI 31)) = (nI 2) then am_run 266 264 [some (.ref l0), some (.ref l1), some (.ref l2), some (.ref l3), some (.int l4), none, none, none] [] w else if (s0 &&& (nI 31)) = (nI 3) then am_run 266 348 [some (.ref l0), some (.ref l1), some (.ref l2), some (.ref l3), some (.int l4), none, none, none] [] w else if (s0 &&& (nI 31)) = (nI 4) then am_run 266 428 [some (.ref l0), some (.ref l1), some (.ref l2), some (.ref l3), some (.int l4), none, none, none] [] w else if (s0 &&& (nI 31)) = (nI 5) then am_run 266 484 [some (.ref l0), some (.ref l1), some (.ref l2), some (.ref l3), some (.int l4), none, none, none] [] w else if (s0 &&& (nI 31)) = (nI 6) then am_run 266 568 [some (.ref l0), some (.ref l1), some (.ref l2), some (.ref l3), some (.int l4), none, none, none] [] w else if (s0 &&& (nI 31)) = (nI 7) then am_run 266 624 [some (.ref l0), some (.ref l1), some (.ref l2), some (.ref l3), some (.int l4), none, none, none] [] w else if (s0 &&& (nI 31)) = (nI 8) then am_run 266 680 [some (.ref l0), some (.ref l1), some (.ref l2), some (.ref l3), some (.int l4), none, none, none] [] w else if (s0 &&& (nI 31)) = (nI 9) then am_run 266 720 [some (.ref l0), some (.ref l1), some (.ref l2), some (.ref l3), some (.int l4), none, none, none] [] w else if (s0 &&& (nI 31)) = (nI 10) then am_run 266 748 [some (.ref l0), some (.ref l1), some (.ref l2), some (.ref l3), some (.int l4), none, none, none] [] w else if (s0 &&& (nI 31)) = (nI 11) then am_run 266 788 [some (.ref l0), some (.ref l1), some (.ref l2), some (.ref l3), some (.int l4), none, none, none] [] w else if (s0 &&& (nI 31)) = (nI 12) then am_run 266 816 [some (.ref l0), some (.ref l1), some (.ref l2), some (.ref l3), some (.int l4), none, none, none] [] w else if (s0 &&& (nI 31)) = (nI 13) then am_run 266 829 [some (.ref l0), some (.ref l1), some (.ref l2), some (.ref l3), some (.int l4), none, none, none] [] w else if (s0 &&& (nI 31)) = (nI 14) then am_run 266 881 [some (.ref l0), some (.ref l1), some (.ref l2), some (.ref l3), some (.int l4), none, none, none] [] w else if (s0 &&& (nI 31)) = (nI 15) then am_run 266 921 [some (.ref l0), some (.ref l1), some (.ref l2), some (.ref l3), some (.int l4), none, none, none] [] w else if (s0 &&& (nI 31)) = (nI 16) then am_run 266 949 [some (.ref l0), some (.ref l1), some (.ref l2), some (.ref l3), some (.int l4), none, none, none] [] w else if (s0 &&& (nI 31)) = (nI 17) then am_run 266 977 [some (.ref l0), some (.ref l1), some (.ref l2), some (.ref l3), some (.int l4), none, none, none] [] w else if (s0 &&& (nI 31)) = (nI 18) then am_run 266 1029 [some (.ref l0), some (.ref l1), some (.ref l2), some (.ref l3), some (.int l4), none, none, none] [] w else if (s0 &&& (nI 31)) = (nI 19) then am_run 266 1069 [some (.ref l0), some (.ref l1), some (.ref l2), some (.ref l3), some (.int l4), none, none, none] [] w else if (s0 &&& (nI 31)) = (nI 20) then am_run 266 1109 [some (.ref l0), some (.ref l1), some (.ref l2), some (.ref l3), some (.int l4), none, none, none] [] w else if (s0 &&& (nI 31)) = (nI 21) then am_run 266 1161 [some (.ref l0), some (.ref l1), some (.ref l2), some (.ref l3), some (.int l4), none, none, none] [] w else if (s0 &&& (nI 31)) = (nI 22) then am_run 266 1201 [some (.ref l0), some (.ref l1), some (.ref l2), some (.ref l3), some (.int l4), none, none, none] [] w else if (s0 &&& (nI 31)) = (nI 23) then am_run 266 1229 [some (.ref l0), some (.ref l1), some (.ref l2), some (.ref l3), some (.int l4), none, none, none] [] w else if (s0 &&& (nI 31)) = (nI 24) then am_run 266 1269 [some (.ref l0), some (.ref l1), some (.ref l2), some (.ref l3), some (.int l4), none, none, none] [] w else if (s0 &&& (nI 31)) = (nI 25) then am_run 266 1297 [some (.ref l0), some (.ref l1), some (.ref l2), some (.ref l3), some (.int l4), none, none, none] [] w else if (s0 &&& (nI 31)) = (nI 26) then am_run 266 1337 [some (.ref l0), some (.ref l1), some (.ref l2), some (.ref l3), some (.int l4), none, none, none] [] w else if (s0 &&& (nI 31)) = (nI 27) then am_run 266 1377 [some (.ref l0), some (.ref l1), some (.ref l2), some (.ref l3), some (.int l4), none, none, none] [] w else if (s0 &&& (nI 31)) = (nI 28) then am_run 266 1390 [some (.ref l0), some (.ref l1), some (.ref l2), some (.ref l3), some (.int l4), none, none, none] [] w else am_run 266 1404 [some (.ref l0), some (.ref l1), some (.ref l2), some (.ref l3), some (.int l4), none, none, none] [] w := by
  refine (bu (ls'' := [some (.ref l0), some (.ref l1), some (.ref l2), some (.ref l3), some (.int l4), none, none, none]) (st' := [.int (nI 31), .int s0]) bf266_40 bf266_42 rfl rfl).trans ?_
  refine (bu (ls'' := [some (.ref l0), some (.ref l1), some (.ref l2), some (.ref l3), some (.int l4), none, none, none]) (st' := [.int (s0 &&& (nI 31))]) bf266_42 bf266_43 rfl rfl).trans ?_
  refine bsw (fun q => ?_) (fun q0 => ?_)
  · exact bu (ls' := [some (.ref l0), some (.ref l1), some (.ref l2), some (.ref l3), some (.int l4), none, none, none]) (ls'' := [some (.ref l0), some (.ref l1), some (.ref l2), some (.ref l3), some (.int l4), none, none, none]) (st' := []) bf266_43 bf266_172 (by rw [q]; rfl) rfl
  refine bsw (fun q => ?_) (fun q1 => ?_)
  · exact bu (ls' := [some (.ref l0), some (.ref l1), some (.ref l2), some (.ref l3), some (.int l4), none, none, none]) (ls'' := [some (.ref l0), some (.ref l1), some (.ref l2), some (.ref l3), some (.int l4), none, none, none]) (st' := []) bf266_43 bf266_236 (by rw [q]; rfl) rfl
  refine bsw (fun q => ?_) (fun q2 => ?_)
  · exact bu (ls' := [some (.ref l0), some (.ref l1), some (.ref l2), some (.ref l3), some (.int l4), none, none, none]) (ls'' := [some (.ref l0), some (.ref l1), some (.ref l2), some (.ref l3), some (.int l4), none, none, none]) (st' := []) bf266_43 bf266_264 (by rw [q]; rfl) rfl
  refine bsw (fun q => ?_) (fun q3 => ?_)
  · exact bu (ls' := [some (.ref l0), some (.ref l1), some (.ref l2), some (.ref l3), some (.int l4), none, none, none]) (ls'' := [some (.ref l0), some (.ref l1), some (.ref l2), some (.ref l3), some (.int l4), none, none, none]) (st' := []) bf266_43 bf266_348 (by rw [q]; rfl) rfl
  refine bsw (fun q => ?_) (fun q4 => ?_)
  · exact bu (ls' := [some (.ref l0), some (.ref l1), some (.ref l2), some (.ref l3), some (.int l4), none, none, none]) (ls'' := [some (.ref l0), some (.ref l1), some (.ref l2), some (.ref l3), some (.int l4), none, none, none]) (st' := []) bf266_43 bf266_428 (by rw [q]; rfl) rfl
  refine bsw (fun q => ?_) (fun q5 => ?_)
  · exact bu (ls' := [some (.ref l0), some (.ref l1), some (.ref l2), some (.ref l3), some (.int l4), none, none, none]) (ls'' := [some (.ref l0), some (.ref l1), some (.ref l2), some (.ref l3), some (.int l4), none, none, none]) (st' := []) bf266_43 bf266_484 (by rw [q]; rfl) rfl
  refine bsw (fun q => ?_) (fun q6 => ?_)
  · exact bu (ls' := [some (.ref l0), some (.ref l1), some (.ref l2), some (.ref l3), some (.int l4), none, none, none]) (ls'' := [some (.ref l0), some (.ref l1), some (.ref l2), some (.ref l3), some (.int l4), none, none, none]) (st' := []) bf266_43 bf266_568 (by rw [q]; rfl) rfl
  refine bsw (fun q => ?_) (fun q7 => ?_)
  · exact bu (ls' := [some (.ref l0), some (.ref l1), some (.ref l2), some (.ref l3), some (.int l4), none, none, none]) (ls'' := [some (.ref l0), some (.ref l1), some (.ref l2), some (.ref l3), some (.int l4), none, none, none]) (st' := []) bf266_43 bf266_624 (by rw [q]; rfl) rfl
  refine bsw (fun q => ?_) (fun q8 => ?_)
  · exact bu (ls' := [some (.ref l0), some (.ref l1), some (.ref l2), some (.ref l3), some (.int l4), none, none, none]) (ls'' := [some (.ref l0), some (.ref l1), some (.ref l2), some (.ref l3), some (.int l4), none, none, none]) (st' := []) bf266_43 bf266_680 (by rw [q]; rfl) rfl
  refine bsw (fun q => ?_) (fun q9 => ?_)
  · exact bu (ls' := [some (.ref l0), some (.ref l1), some (.ref l2), some (.ref l3), some (.int l4), none, none, none]) (ls'' := [some (.ref l0), some (.ref l1), some (.ref l2), some (.ref l3), some (.int l4), none, none, none]) (st' := []) bf266_43 bf266_720 (by rw [q]; rfl) rfl
  refine bsw (fun q => ?_) (fun q10 => ?_)
  · exact bu (ls' := [some (.ref l0), some (.ref l1), some (.ref l2), some (.ref l3), some (.int l4), none, none, none]) (ls'' := [some (.ref l0), some (.ref l1), some (.ref l2), some (.ref l3), some (.int l4), none, none, none]) (st' := []) bf266_43 bf266_748 (by rw [q]; rfl) rfl
  refine bsw (fun q => ?_) (fun q11 => ?_)
  · exact bu (ls' := [some (.ref l0), some (.ref l1), some (.ref l2), some (.ref l3), some (.int l4), none, none, none]) (ls'' := [some (.ref l0), some (.ref l1), some (.ref l2), some (.ref l3), some (.int l4), none, none, none]) (st' := []) bf266_43 bf266_788 (by rw [q]; rfl) rfl
  refine bsw (fun q => ?_) (fun q12 => ?_)
  · exact bu (ls' := [some (.ref l0), some (.ref l1), some (.ref l2), some (.ref l3), some (.int l4), none, none, none]) (ls'' := [some (.ref l0), some (.ref l1), some (.ref l2), some (.ref l3), some (.int l4), none, none, none]) (st' := []) bf266_43 bf266_816 (by rw [q]; rfl) rfl
  refine bsw (fun q => ?_) (fun q13 => ?_)
  · exact bu (ls' := [some (.ref l0), some (.ref l1), some (.ref l2), some (.ref l3), some (.int l4), none, none, none]) (ls'' := [some (.ref l0), some (.ref l1), some (.ref l2), some (.ref l3), some (.int l4), none, none, none]) (st' := []) bf266_43 bf266_829 (by rw [q]; rfl) rfl
  refine bsw (fun q => ?_) (fun q14 => ?_)
  · exact bu (ls' := [some (.ref l0), some (.ref l1), some (.ref l2), some (.ref l3), some (.int l4), none, none, none]) (ls'' := [some (.ref l0), some (.ref l1), some (.ref l2), some (.ref l3), some (.int l4), none, none, none]) (st' := []) bf266_43 bf266_881 (by rw [q]; rfl) rfl
  refine bsw (fun q => ?_) (fun q15 => ?_)
  · exact bu (ls' := [some (.ref l0), some (.ref l1), some (.ref l2), some (.ref l3), some (.int l4), none, none, none]) (ls'' := [some (.ref l0), some (.ref l1), some (.ref l2), some (.ref l3), some (.int l4), none, none, none]) (st' := []) bf266_43 bf266_921 (by rw [q]; rfl) rfl
  refine bsw (fun q => ?_) (fun q16 => ?_)
  · exact bu (ls' := [some (.ref l0), some (.ref l1), some (.ref l2), some (.ref l3), some (.int l4), none, none, none]) (ls'' := [some (.ref l0), some (.ref l1), some (.ref l2), some (.ref l3), some (.int l4), none, none, none]) (st' := []) bf266_43 bf266_949 (by rw [q]; rfl) rfl
  refine bsw (fun q => ?_) (fun q17 => ?_)
  · exact bu (ls' := [some (.ref l0), some (.ref l1), some (.ref l2), some (.ref l3), some (.int l4), none, none, none]) (ls'' := [some (.ref l0), some (.ref l1), some (.ref l2), some (.ref l3), some (.int l4), none, none, none]) (st' := []) bf266_43 bf266_977 (by rw [q]; rfl) rfl
  refine bsw (fun q => ?_) (fun q18 => ?_)
  · exact bu (ls' := [some (.ref l0), some (.ref l1), some (.ref l2), some (.ref l3), some (.int l4), none, none, none]) (ls'' := [some (.ref l0), some (.ref l1), some (.ref l2), some (.ref l3), some (.int l4), none, none, none]) (st' := []) bf266_43 bf266_1029 (by rw [q]; rfl) rfl
  refine bsw (fun q => ?_) (fun q19 => ?_)
  · exact bu (ls' := [some (.ref l0), some (.ref l1), some (.ref l2), some (.ref l3), some (.int l4), none, none, none]) (ls'' := [some (.ref l0), some (.ref l1), some (.ref l2), some (.ref l3), some (.int l4), none, none, none]) (st' := []) bf266_43 bf266_1069 (by rw [q]; rfl) rfl
  refine bsw (fun q => ?_) (fun q20 => ?_)
  · exact bu (ls' := [some (.ref l0), some (.ref l1), some (.ref l2), some (.ref l3), some (.int l4), none, none, none]) (ls'' := [some (.ref l0), some (.ref l1), some (.ref l2), some (.ref l3), some (.int l4), none, none, none]) (st' := []) bf266_43 bf266_1109 (by rw [q]; rfl) rfl
  refine bsw (fun q => ?_) (fun q21 => ?_)
  · exact bu (ls' := [some (.ref l0), some (.ref l1), some (.ref l2), some (.ref l3), some (.int l4), none, none, none]) (ls'' := [some (.ref l0), some (.ref l1), some (.ref l2), some (.ref l3), some (.int l4), none, none, none]) (st' := []) bf266_43 bf266_1161 (by rw [q]; rfl) rfl
  refine bsw (fun q => ?_) (fun q22 => ?_)
  · exact bu (ls' := [some (.ref l0), some (.ref l1), some (.ref l2), some (.ref l3), some (.int l4), none, none, none]) (ls'' := [some (.ref l0), some (.ref l1), some (.ref l2), some (.ref l3), some (.int l4), none, none, none]) (st' := []) bf266_43 bf266_1201 (by rw [q]; rfl) rfl
  refine bsw (fun q => ?_) (fun q23 => ?_)
  · exact bu (ls' := [some (.ref l0), some (.ref l1), some (.ref l2), some (.ref l3), some (.int l4), none, none, none]) (ls'' := [some (.ref l0), some (.ref l1), some (.ref l2), some (.ref l3), some (.int l4), none, none, none]) (st' := []) bf266_43 bf266_1229 (by rw [q]; rfl) rfl
  refine bsw (fun q => ?_) (fun q24 => ?_)
  · exact bu (ls' := [some (.ref l0), some (.ref l1), some (.ref l2), some (.ref l3), some (.int l4), none, none, none]) (ls'' := [some (.ref l0), some (.ref l1), some (.ref l2), some (.ref l3), some (.int l4), none, none, none]) (st' := []) bf266_43 bf266_1269 (by rw [q]; rfl) rfl
  refine bsw (fun q => ?_) (fun q25 => ?_)
  · exact bu (ls' := [some (.ref l0), some (.ref l1), some (.ref l2), some (.ref l3), some (.int l4), none, none, none]) (ls'' := [some (.ref l0), some (.ref l1), some (.ref l2), some (.ref l3), some (.int l4), none, none, none]) (st' := []) bf266_43 bf266_1297 (by rw [q]; rfl) rfl
  refine bsw (fun q => ?_) (fun q26 => ?_)
  · exact bu (ls' := [some (.ref l0), some (.ref l1), some (.ref l2), some (.ref l3), some (.int l4), none, none, none]) (ls'' := [some (.ref l0), some (.ref l1), some (.ref l2), some (.ref l3), some (.int l4), none, none, none]) (st' := []) bf266_43 bf266_1337 (by rw [q]; rfl) rfl
  refine bsw (fun q => ?_) (fun q27 => ?_)
  · exact bu (ls' := [some (.ref l0), some (.ref l1), some (.ref l2), some (.ref l3), some (.int l4), none, none, none]) (ls'' := [some (.ref l0), some (.ref l1), some (.ref l2), some (.ref l3), some (.int l4), none, none, none]) (st' := []) bf266_43 bf266_1377 (by rw [q]; rfl) rfl
  refine bsw (fun q => ?_) (fun q28 => ?_)
  · exact bu (ls' := [some (.ref l0), some (.ref l1), some (.ref l2), some (.ref l3), some (.int l4), none, none, none]) (ls'' := [some (.ref l0), some (.ref l1), some (.ref l2), some (.ref l3), some (.int l4), none, none, none]) (st' := []) bf266_43 bf266_1390 (by rw [q]; rfl) rfl
  exact bsd bf266_43 bf266_1404 rfl rfl (bcon (by rfl) q0 (bcon (by rfl) q1 (bcon (by rfl) q2 (bcon (by rfl) q3 (bcon (by rfl) q4 (bcon (by rfl) q5 (bcon (by rfl) q6 (bcon (by rfl) q7 (bcon (by rfl) q8 (bcon (by rfl) q9 (bcon (by rfl) q10 (bcon (by rfl) q11 (bcon (by rfl) q12 (bcon (by rfl) q13 (bcon (by rfl) q14 (bcon (by rfl) q15 (bcon (by rfl) q16 (bcon (by rfl) q17 (bcon (by rfl) q18 (bcon (by rfl) q19 (bcon (by rfl) q20 (bcon (by rfl) q21 (bcon (by rfl) q22 (bcon (by rfl) q23 (bcon (by rfl) q24 (bcon (by rfl) q25 (bcon (by rfl) q26 (bcon (by rfl) q27 (bcon (by rfl) q28 (bnil)))))))))))))))))))))))))))))) rfl
theorem bk266_172 {w : am_Wd} {l0 : Nat} {l1 : Nat} {l2 : Nat} {l3 : Nat} {l4 : Int32} : am_run 266 172 [some (.ref l0), some (.ref l1), some (.ref l2), some (.ref l3), some (.int l4), none, none, none] [] w = (am_ri 0 w l0 (l4 + (nI 1))).bind fun v => am_run 266 179 [some (.ref l0), some (.ref l1), some (.ref l2), some (.ref l3), some (.int l4), none, none, none] (.int v :: [.ref l1]) w := by
  refine (bu (ls'' := [some (.ref l0), some (.ref l1), some (.ref l2), some (.ref l3), some (.int l4), none, none, none]) (st' := [.ref l1]) bf266_172 bf266_173 rfl rfl).trans ?_
  refine (bu (ls'' := [some (.ref l0), some (.ref l1), some (.ref l2), some (.ref l3), some (.int l4), none, none, none]) (st' := [.ref l0, .ref l1]) bf266_173 bf266_174 rfl rfl).trans ?_
  refine (bu (ls'' := [some (.ref l0), some (.ref l1), some (.ref l2), some (.ref l3), some (.int l4), none, none, none]) (st' := [.int l4, .ref l0, .ref l1]) bf266_174 bf266_176 rfl rfl).trans ?_
  refine (bu (ls'' := [some (.ref l0), some (.ref l1), some (.ref l2), some (.ref l3), some (.int l4), none, none, none]) (st' := [.int (nI 1), .int l4, .ref l0, .ref l1]) bf266_176 bf266_177 rfl rfl).trans ?_
  refine (bu (ls'' := [some (.ref l0), some (.ref l1), some (.ref l2), some (.ref l3), some (.int l4), none, none, none]) (st' := [.int (l4 + (nI 1)), .ref l0, .ref l1]) bf266_177 bf266_178 rfl rfl).trans ?_
  exact bh bf266_178 bf266_179 rfl (fun _ _ => am_ge_rf w) rfl
theorem bk266_236 {w : am_Wd} {l0 : Nat} {l1 : Nat} {l2 : Nat} {l3 : Nat} {l4 : Int32} : am_run 266 236 [some (.ref l0), some (.ref l1), some (.ref l2), some (.ref l3), some (.int l4), none, none, none] [] w = (am_ri 0 w l0 (l4 + (nI 1))).bind fun v => am_run 266 243 [some (.ref l0), some (.ref l1), some (.ref l2), some (.ref l3), some (.int l4), none, none, none] (.int v :: [.ref l1]) w := by
  refine (bu (ls'' := [some (.ref l0), some (.ref l1), some (.ref l2), some (.ref l3), some (.int l4), none, none, none]) (st' := [.ref l1]) bf266_236 bf266_237 rfl rfl).trans ?_
  refine (bu (ls'' := [some (.ref l0), some (.ref l1), some (.ref l2), some (.ref l3), some (.int l4), none, none, none]) (st' := [.ref l0, .ref l1]) bf266_237 bf266_238 rfl rfl).trans ?_
  refine (bu (ls'' := [some (.ref l0), some (.ref l1), some (.ref l2), some (.ref l3), some (.int l4), none, none, none]) (st' := [.int l4, .ref l0, .ref l1]) bf266_238 bf266_240 rfl rfl).trans ?_
  refine (bu (ls'' := [some (.ref l0), some (.ref l1), some (.ref l2), some (.ref l3), some (.int l4), none, none, none]) (st' := [.int (nI 1), .int l4, .ref l0, .ref l1]) bf266_240 bf266_241 rfl rfl).trans ?_
  refine (bu (ls'' := [some (.ref l0), some (.ref l1), some (.ref l2), some (.ref l3), some (.int l4), none, none, none]) (st' := [.int (l4 + (nI 1)), .ref l0, .ref l1]) bf266_241 bf266_242 rfl rfl).trans ?_
  exact bh bf266_242 bf266_243 rfl (fun _ _ => am_ge_rf w) rfl
theorem bk266_264 {w : am_Wd} {l0 : Nat} {l1 : Nat} {l2 : Nat} {l3 : Nat} {l4 : Int32} : am_run 266 264 [some (.ref l0), some (.ref l1), some (.ref l2), some (.ref l3), some (.int l4), none, none, none] [] w = (am_ri 0 w l0 (l4 + (nI 1))).bind fun v => am_run 266 271 [some (.ref l0), some (.ref l1), some (.ref l2), some (.ref l3), some (.int l4), none, none, none] (.int v :: [.ref l1]) w := by
  refine (bu (ls'' := [some (.ref l0), some (.ref l1), some (.ref l2), some (.ref l3), some (.int l4), none, none, none]) (st' := [.ref l1]) bf266_264 bf266_265 rfl rfl).trans ?_
  refine (bu (ls'' := [some (.ref l0), some (.ref l1), some (.ref l2), some (.ref l3), some (.int l4), none, none, none]) (st' := [.ref l0, .ref l1]) bf266_265 bf266_266 rfl rfl).trans ?_
  refine (bu (ls'' := [some (.ref l0), some (.ref l1), some (.ref l2), some (.ref l3), some (.int l4), none, none, none]) (st' := [.int l4, .ref l0, .ref l1]) bf266_266 bf266_268 rfl rfl).trans ?_
  refine (bu (ls'' := [some (.ref l0), some (.ref l1), some (.ref l2), some (.ref l3), some (.int l4), none, none, none]) (st' := [.int (nI 1), .int l4, .ref l0, .ref l1]) bf266_268 bf266_269 rfl rfl).trans ?_
  refine (bu (ls'' := [some (.ref l0), some (.ref l1), some (.ref l2), some (.ref l3), some (.int l4), none, none, none]) (st' := [.int (l4 + (nI 1)), .ref l0, .ref l1]) bf266_269 bf266_270 rfl rfl).trans ?_
  exact bh bf266_270 bf266_271 rfl (fun _ _ => am_ge_rf w) rfl
theorem bk266_348 {w : am_Wd} {l0 : Nat} {l1 : Nat} {l2 : Nat} {l3 : Nat} {l4 : Int32} : am_run 266 348 [some (.ref l0), some (.ref l1), some (.ref l2), some (.ref l3), some (.int l4), none, none, none] [] w = (am_ri 0 w l0 (l4 + (nI 1))).bind fun v => am_run 266 355 [some (.ref l0), some (.ref l1), some (.ref l2), some (.ref l3), some (.int l4), none, none, none] (.int v :: [.ref l1]) w := by
  refine (bu (ls'' := [some (.ref l0), some (.ref l1), some (.ref l2), some (.ref l3), some (.int l4), none, none, none]) (st' := [.ref l1]) bf266_348 bf266_349 rfl rfl).trans ?_
  refine (bu (ls'' := [some (.ref l0), some (.ref l1), some (.ref l2), some (.ref l3), some (.int l4), none, none, none]) (st' := [.ref l0, .ref l1]) bf266_349 bf266_350 rfl rfl).trans ?_
  refine (bu (ls'' := [some (.ref l0), some (.ref l1), some (.ref l2), some (.ref l3), some (.int l4), none, none, none]) (st' := [.int l4, .ref l0, .ref l1]) bf266_350 bf266_352 rfl rfl).trans ?_
  refine (bu (ls'' := [some (.ref l0), some (.ref l1), some (.ref l2), some (.ref l3), some (.int l4), none, none, none]) (st' := [.int (nI 1), .int l4, .ref l0, .ref l1]) bf266_352 bf266_353 rfl rfl).trans ?_
  refine (bu (ls'' := [some (.ref l0), some (.ref l1), some (.ref l2), some (.ref l3), some (.int l4), none, none, none]) (st' := [.int (l4 + (nI 1)), .ref l0, .ref l1]) bf266_353 bf266_354 rfl rfl).trans ?_
  exact bh bf266_354 bf266_355 rfl (fun _ _ => am_ge_rf w) rfl
theorem bk266_428 {w : am_Wd} {l0 : Nat} {l1 : Nat} {l2 : Nat} {l3 : Nat} {l4 : Int32} : am_run 266 428 [some (.ref l0), some (.ref l1), some (.ref l2), some (.ref l3), some (.int l4), none, none, none] [] w = (am_ri 0 w l0 (l4 + (nI 1))).bind fun v => am_run 266 435 [some (.ref l0), some (.ref l1), some (.ref l2), some (.ref l3), some (.int l4), none, none, none] (.int v :: [.ref l1]) w := by
  refine (bu (ls'' := [some (.ref l0), some (.ref l1), some (.ref l2), some (.ref l3), some (.int l4), none, none, none]) (st' := [.ref l1]) bf266_428 bf266_429 rfl rfl).trans ?_
  refine (bu (ls'' := [some (.ref l0), some (.ref l1), some (.ref l2), some (.ref l3), some (.int l4), none, none, none]) (st' := [.ref l0, .ref l1]) bf266_429 bf266_430 rfl rfl).trans ?_
  refine (bu (ls'' := [some (.ref l0), some (.ref l1), some (.ref l2), some (.ref l3), some (.int l4), none, none, none]) (st' := [.int l4, .ref l0, .ref l1]) bf266_430 bf266_432 rfl rfl).trans ?_
  refine (bu (ls'' := [some (.ref l0), some (.ref l1), some (.ref l2), some (.ref l3), some (.int l4), none, none, none]) (st' := [.int (nI 1), .int l4, .ref l0, .ref l1]) bf266_432 bf266_433 rfl rfl).trans ?_
  refine (bu (ls'' := [some (.ref l0), some (.ref l1), some (.ref l2), some (.ref l3), some (.int l4), none, none, none]) (st' := [.int (l4 + (nI 1)), .ref l0, .ref l1]) bf266_433 bf266_434 rfl rfl).trans ?_
  exact bh bf266_434 bf266_435 rfl (fun _ _ => am_ge_rf w) rfl
theorem bk266_484 {w : am_Wd} {l0 : Nat} {l1 : Nat} {l2 : Nat} {l3 : Nat} {l4 : Int32} : am_run 266 484 [some (.ref l0), some (.ref l1), some (.ref l2), some (.ref l3), some (.int l4), none, none, none] [] w = (am_ri 0 w l0 (l4 + (nI 1))).bind fun v => am_run 266 491 [some (.ref l0), some (.ref l1), some (.ref l2), some (.ref l3), some (.int l4), none, none, none] (.int v :: [.ref l1]) w := by
  refine (bu (ls'' := [some (.ref l0), some (.ref l1), some (.ref l2), some (.ref l3), some (.int l4), none, none, none]) (st' := [.ref l1]) bf266_484 bf266_485 rfl rfl).trans ?_
  refine (bu (ls'' := [some (.ref l0), some (.ref l1), some (.ref l2), some (.ref l3), some (.int l4), none, none, none]) (st' := [.ref l0, .ref l1]) bf266_485 bf266_486 rfl rfl).trans ?_
  refine (bu (ls'' := [some (.ref l0), some (.ref l1), some (.ref l2), some (.ref l3), some (.int l4), none, none, none]) (st' := [.int l4, .ref l0, .ref l1]) bf266_486 bf266_488 rfl rfl).trans ?_
  refine (bu (ls'' := [some (.ref l0), some (.ref l1), some (.ref l2), some (.ref l3), some (.int l4), none, none, none]) (st' := [.int (nI 1), .int l4, .ref l0, .ref l1]) bf266_488 bf266_489 rfl rfl).trans ?_
  refine (bu (ls'' := [some (.ref l0), some (.ref l1), some (.ref l2), some (.ref l3), some (.int l4), none, none, none]) (st' := [.int (l4 + (nI 1)), .ref l0, .ref l1]) bf266_489 bf266_490 rfl rfl).trans ?_
  exact bh bf266_490 bf266_491 rfl (fun _ _ => am_ge_rf w) rfl
theorem bk266_568 {w : am_Wd} {l0 : Nat} {l1 : Nat} {l2 : Nat} {l3 : Nat} {l4 : Int32} : am_run 266 568 [some (.ref l0), some (.ref l1), some (.ref l2), some (.ref l3), some (.int l4), none, none, none] [] w = (am_ri 0 w l0 (l4 + (nI 1))).bind fun v => am_run 266 575 [some (.ref l0), some (.ref l1), some (.ref l2), some (.ref l3), some (.int l4), none, none, none] (.int v :: [.ref l1]) w := by
  refine (bu (ls'' := [some (.ref l0), some (.ref l1), some (.ref l2), some (.ref l3), some (.int l4), none, none, none]) (st' := [.ref l1]) bf266_568 bf266_569 rfl rfl).trans ?_
  refine (bu (ls'' := [some (.ref l0), some (.ref l1), some (.ref l2), some (.ref l3), some (.int l4), none, none, none]) (st' := [.ref l0, .ref l1]) bf266_569 bf266_570 rfl rfl).trans ?_
  refine (bu (ls'' := [some (.ref l0), some (.ref l1), some (.ref l2), some (.ref l3), some (.int l4), none, none, none]) (st' := [.int l4, .ref l0, .ref l1]) bf266_570 bf266_572 rfl rfl).trans ?_
  refine (bu (ls'' := [some (.ref l0), some (.ref l1), some (.ref l2), some (.ref l3), some (.int l4), none, none, none]) (st' := [.int (nI 1), .int l4, .ref l0, .ref l1]) bf266_572 bf266_573 rfl rfl).trans ?_
  refine (bu (ls'' := [some (.ref l0), some (.ref l1), some (.ref l2), some (.ref l3), some (.int l4), none, none, none]) (st' := [.int (l4 + (nI 1)), .ref l0, .ref l1]) bf266_573 bf266_574 rfl rfl).trans ?_
  exact bh bf266_574 bf266_575 rfl (fun _ _ => am_ge_rf w) rfl
theorem bk266_624 {w : am_Wd} {l0 : Nat} {l1 : Nat} {l2 : Nat} {l3 : Nat} {l4 : Int32} : am_run 266 624 [some (.ref l0), some (.ref l1), some (.ref l2), some (.ref l3), some (.int l4), none, none, none] [] w = (am_ri 0 w l0 (l4 + (nI 1))).bind fun v => am_run 266 631 [some (.ref l0), some (.ref l1), some (.ref l2), some (.ref l3), some (.int l4), none, none, none] (.int v :: [.ref l1]) w := by
  refine (bu (ls'' := [some (.ref l0), some (.ref l1), some (.ref l2), some (.ref l3), some (.int l4), none, none, none]) (st' := [.ref l1]) bf266_624 bf266_625 rfl rfl).trans ?_
  refine (bu (ls'' := [some (.ref l0), some (.ref l1), some (.ref l2), some (.ref l3), some (.int l4), none, none, none]) (st' := [.ref l0, .ref l1]) bf266_625 bf266_626 rfl rfl).trans ?_
  refine (bu (ls'' := [some (.ref l0), some (.ref l1), some (.ref l2), some (.ref l3), some (.int l4), none, none, none]) (st' := [.int l4, .ref l0, .ref l1]) bf266_626 bf266_628 rfl rfl).trans ?_
  refine (bu (ls'' := [some (.ref l0), some (.ref l1), some (.ref l2), some (.ref l3), some (.int l4), none, none, none]) (st' := [.int (nI 1), .int l4, .ref l0, .ref l1]) bf266_628 bf266_629 rfl rfl).trans ?_
  refine (bu (ls'' := [some (.ref l0), some (.ref l1), some (.ref l2), some (.ref l3), some (.int l4), none, none, none]) (st' := [.int (l4 + (nI 1)), .ref l0, .ref l1]) bf266_629 bf266_630 rfl rfl).trans ?_
  exact bh bf266_630 bf266_631 rfl (fun _ _ => am_ge_rf w) rfl
theorem bk266_680 {w : am_Wd} {l0 : Nat} {l1 : Nat} {l2 : Nat} {l3 : Nat} {l4 : Int32} : am_run 266 680 [some (.ref l0), some (.ref l1), some (.ref l2), some (.ref l3), some (.int l4), none, none, none] [] w = (am_ri 0 w l0 (l4 + (nI 1))).bind fun v => am_run 266 687 [some (.ref l0), some (.ref l1), some (.ref l2), some (.ref l3), some (.int l4), none, none, none] (.int v :: [.ref l1]) w := by
  refine (bu (ls'' := [some (.ref l0), some (.ref l1), some (.ref l2), some (.ref l3), some (.int l4), none, none, none]) (st' := [.ref l1]) bf266_680 bf266_681 rfl rfl).trans ?_
  refine (bu (ls'' := [some (.ref l0), some (.ref l1), some (.ref l2), some (.ref l3), some (.int l4), none, none, none]) (st' := [.ref l0, .ref l1]) bf266_681 bf266_682 rfl rfl).trans ?_
  refine (bu (ls'' := [some (.ref l0), some (.ref l1), some (.ref l2), some (.ref l3), some (.int l4), none, none, none]) (st' := [.int l4, .ref l0, .ref l1]) bf266_682 bf266_684 rfl rfl).trans ?_
  refine (bu (ls'' := [some (.ref l0), some (.ref l1), some (.ref l2), some (.ref l3), some (.int l4), none, none, none]) (st' := [.int (nI 1), .int l4, .ref l0, .ref l1]) bf266_684 bf266_685 rfl rfl).trans ?_
  refine (bu (ls'' := [some (.ref l0), some (.ref l1), some (.ref l2), some (.ref l3), some (.int l4), none, none, none]) (st' := [.int (l4 + (nI 1)), .ref l0, .ref l1]) bf266_685 bf266_686 rfl rfl).trans ?_
  exact bh bf266_686 bf266_687 rfl (fun _ _ => am_ge_rf w) rfl
theorem bk266_720 {w : am_Wd} {l0 : Nat} {l1 : Nat} {l2 : Nat} {l3 : Nat} {l4 : Int32} : am_run 266 720 [some (.ref l0), some (.ref l1), some (.ref l2), some (.ref l3), some (.int l4), none, none, none] [] w = (am_ri 0 w l0 (l4 + (nI 1))).bind fun v => am_run 266 727 [some (.ref l0), some (.ref l1), some (.ref l2), some (.ref l3), some (.int l4), none, none, none] (.int v :: [.ref l1]) w := by
  refine (bu (ls'' := [some (.ref l0), some (.ref l1), some (.ref l2), some (.ref l3), some (.int l4), none, none, none]) (st' := [.ref l1]) bf266_720 bf266_721 rfl rfl).trans ?_
  refine (bu (ls'' := [some (.ref l0), some (.ref l1), some (.ref l2), some (.ref l3), some (.int l4), none, none, none]) (st' := [.ref l0, .ref l1]) bf266_721 bf266_722 rfl rfl).trans ?_
  refine (bu (ls'' := [some (.ref l0), some (.ref l1), some (.ref l2), some (.ref l3), some (.int l4), none, none, none]) (st' := [.int l4, .ref l0, .ref l1]) bf266_722 bf266_724 rfl rfl).trans ?_
  refine (bu (ls'' := [some (.ref l0), some (.ref l1), some (.ref l2), some (.ref l3), some (.int l4), none, none, none]) (st' := [.int (nI 1), .int l4, .ref l0, .ref l1]) bf266_724 bf266_725 rfl rfl).trans ?_
  refine (bu (ls'' := [some (.ref l0), some (.ref l1), some (.ref l2), some (.ref l3), some (.int l4), none, none, none]) (st' := [.int (l4 + (nI 1)), .ref l0, .ref l1]) bf266_725 bf266_726 rfl rfl).trans ?_
  exact bh bf266_726 bf266_727 rfl (fun _ _ => am_ge_rf w) rfl
theorem bk266_748 {w : am_Wd} {l0 : Nat} {l1 : Nat} {l2 : Nat} {l3 : Nat} {l4 : Int32} : am_run 266 748 [some (.ref l0), some (.ref l1), some (.ref l2), some (.ref l3), some (.int l4), none, none, none] [] w = (am_ri 0 w l0 (l4 + (nI 1))).bind fun v => am_run 266 755 [some (.ref l0), some (.ref l1), some (.ref l2), some (.ref l3), some (.int l4), none, none, none] (.int v :: [.ref l1]) w := by
  refine (bu (ls'' := [some (.ref l0), some (.ref l1), some (.ref l2), some (.ref l3), some (.int l4), none, none, none]) (st' := [.ref l1]) bf266_748 bf266_749 rfl rfl).trans ?_
  refine (bu (ls'' := [some (.ref l0), some (.ref l1), some (.ref l2), some (.ref l3), some (.int l4), none, none, none]) (st' := [.ref l0, .ref l1]) bf266_749 bf266_750 rfl rfl).trans ?_
  refine (bu (ls'' := [some (.ref l0), some (.ref l1), some (.ref l2), some (.ref l3), some (.int l4), none, none, none]) (st' := [.int l4, .ref l0, .ref l1]) bf266_750 bf266_752 rfl rfl).trans ?_
  refine (bu (ls'' := [some (.ref l0), some (.ref l1), some (.ref l2), some (.ref l3), some (.int l4), none, none, none]) (st' := [.int (nI 1), .int l4, .ref l0, .ref l1]) bf266_752 bf266_753 rfl rfl).trans ?_
  refine (bu (ls'' := [some (.ref l0), some (.ref l1), some (.ref l2), some (.ref l3), some (.int l4), none, none, none]) (st' := [.int (l4 + (nI 1)), .ref l0, .ref l1]) bf266_753 bf266_754 rfl rfl).trans ?_
  exact bh bf266_754 bf266_755 rfl (fun _ _ => am_ge_rf w) rfl
theorem bk266_788 {w : am_Wd} {l0 : Nat} {l1 : Nat} {l2 : Nat} {l3 : Nat} {l4 : Int32} : am_run 266 788 [some (.ref l0), some (.ref l1), some (.ref l2), some (.ref l3), some (.int l4), none, none, none] [] w = (am_ri 0 w l0 (l4 + (nI 1))).bind fun v => am_run 266 795 [some (.ref l0), some (.ref l1), some (.ref l2), some (.ref l3), some (.int l4), none, none, none] (.int v :: [.ref l1]) w := by
  refine (bu (ls'' := [some (.ref l0), some (.ref l1), some (.ref l2), some (.ref l3), some (.int l4), none, none, none]) (st' := [.ref l1]) bf266_788 bf266_789 rfl rfl).trans ?_
  refine (bu (ls'' := [some (.ref l0), some (.ref l1), some (.ref l2), some (.ref l3), some (.int l4), none, none, none]) (st' := [.ref l0, .ref l1]) bf266_789 bf266_790 rfl rfl).trans ?_
  refine (bu (ls'' := [some (.ref l0), some (.ref l1), some (.ref l2), some (.ref l3), some (.int l4), none, none, none]) (st' := [.int l4, .ref l0, .ref l1]) bf266_790 bf266_792 rfl rfl).trans ?_
  refine (bu (ls'' := [some (.ref l0), some (.ref l1), some (.ref l2), some (.ref l3), some (.int l4), none, none, none]) (st' := [.int (nI 1), .int l4, .ref l0, .ref l1]) bf266_792 bf266_793 rfl rfl).trans ?_
  refine (bu (ls'' := [some (.ref l0), some (.ref l1), some (.ref l2), some (.ref l3), some (.int l4), none, none, none]) (st' := [.int (l4 + (nI 1)), .ref l0, .ref l1]) bf266_793 bf266_794 rfl rfl).trans ?_
  exact bh bf266_794 bf266_795 rfl (fun _ _ => am_ge_rf w) rfl
theorem bk266_816 {w : am_Wd} {l0 : Nat} {l1 : Nat} {l2 : Nat} {l3 : Nat} {l4 : Int32} : am_run 266 816 [some (.ref l0), some (.ref l1), some (.ref l2), some (.ref l3), some (.int l4), none, none, none] [] w = (am_kf w l1 8).bind fun _ => (am_x 24 [.ref l1] w).bind fun r => bct r fun v w' => am_run 266 820 [some (.ref l0), some (.ref l1), some (.ref l2), some (.ref l3), some (.int l4), none, none, none] (v.toList ++ []) w' := by
  refine (bu (ls'' := [some (.ref l0), some (.ref l1), some (.ref l2), some (.ref l3), some (.int l4), none, none, none]) (st' := [.ref l1]) bf266_816 bf266_817 rfl rfl).trans ?_
  exact bkV bf266_817 bf266_820 rfl (by decide +kernel) (Nat.le_of_ble_eq_true rfl) rfl (bhd rfl)
theorem bk266_829 {w : am_Wd} {l0 : Nat} {l1 : Nat} {l2 : Nat} {l3 : Nat} {l4 : Int32} : am_run 266 829 [some (.ref l0), some (.ref l1), some (.ref l2), some (.ref l3), some (.int l4), none, none, none] [] w = (am_ri 0 w l0 (l4 + (nI 1))).bind fun v => am_run 266 836 [some (.ref l0), some (.ref l1), some (.ref l2), some (.ref l3), some (.int l4), none, none, none] (.int v :: [.ref l1]) w := by
  refine (bu (ls'' := [some (.ref l0), some (.ref l1), some (.ref l2), some (.ref l3), some (.int l4), none, none, none]) (st' := [.ref l1]) bf266_829 bf266_830 rfl rfl).trans ?_
  refine (bu (ls'' := [some (.ref l0), some (.ref l1), some (.ref l2), some (.ref l3), some (.int l4), none, none, none]) (st' := [.ref l0, .ref l1]) bf266_830 bf266_831 rfl rfl).trans ?_
  refine (bu (ls'' := [some (.ref l0), some (.ref l1), some (.ref l2), some (.ref l3), some (.int l4), none, none, none]) (st' := [.int l4, .ref l0, .ref l1]) bf266_831 bf266_833 rfl rfl).trans ?_
  refine (bu (ls'' := [some (.ref l0), some (.ref l1), some (.ref l2), some (.ref l3), some (.int l4), none, none, none]) (st' := [.int (nI 1), .int l4, .ref l0, .ref l1]) bf266_833 bf266_834 rfl rfl).trans ?_
  refine (bu (ls'' := [some (.ref l0), some (.ref l1), some (.ref l2), some (.ref l3), some (.int l4), none, none, none]) (st' := [.int (l4 + (nI 1)), .ref l0, .ref l1]) bf266_834 bf266_835 rfl rfl).trans ?_
  exact bh bf266_835 bf266_836 rfl (fun _ _ => am_ge_rf w) rfl
theorem bk266_881 {w : am_Wd} {l0 : Nat} {l1 : Nat} {l2 : Nat} {l3 : Nat} {l4 : Int32} : am_run 266 881 [some (.ref l0), some (.ref l1), some (.ref l2), some (.ref l3), some (.int l4), none, none, none] [] w = (am_ri 0 w l0 (l4 + (nI 1))).bind fun v => am_run 266 888 [some (.ref l0), some (.ref l1), some (.ref l2), some (.ref l3), some (.int l4), none, none, none] (.int v :: [.ref l1]) w := by
  refine (bu (ls'' := [some (.ref l0), some (.ref l1), some (.ref l2), some (.ref l3), some (.int l4), none, none, none]) (st' := [.ref l1]) bf266_881 bf266_882 rfl rfl).trans ?_
  refine (bu (ls'' := [some (.ref l0), some (.ref l1), some (.ref l2), some (.ref l3), some (.int l4), none, none, none]) (st' := [.ref l0, .ref l1]) bf266_882 bf266_883 rfl rfl).trans ?_
  refine (bu (ls'' := [some (.ref l0), some (.ref l1), some (.ref l2), some (.ref l3), some (.int l4), none, none, none]) (st' := [.int l4, .ref l0, .ref l1]) bf266_883 bf266_885 rfl rfl).trans ?_
  refine (bu (ls'' := [some (.ref l0), some (.ref l1), some (.ref l2), some (.ref l3), some (.int l4), none, none, none]) (st' := [.int (nI 1), .int l4, .ref l0, .ref l1]) bf266_885 bf266_886 rfl rfl).trans ?_
  refine (bu (ls'' := [some (.ref l0), some (.ref l1), some (.ref l2), some (.ref l3), some (.int l4), none, none, none]) (st' := [.int (l4 + (nI 1)), .ref l0, .ref l1]) bf266_886 bf266_887 rfl rfl).trans ?_
  exact bh bf266_887 bf266_888 rfl (fun _ _ => am_ge_rf w) rfl
theorem bk266_921 {w : am_Wd} {l0 : Nat} {l1 : Nat} {l2 : Nat} {l3 : Nat} {l4 : Int32} : am_run 266 921 [some (.ref l0), some (.ref l1), some (.ref l2), some (.ref l3), some (.int l4), none, none, none] [] w = (am_ri 0 w l0 (l4 + (nI 1))).bind fun v => am_run 266 928 [some (.ref l0), some (.ref l1), some (.ref l2), some (.ref l3), some (.int l4), none, none, none] (.int v :: [.ref l1]) w := by
  refine (bu (ls'' := [some (.ref l0), some (.ref l1), some (.ref l2), some (.ref l3), some (.int l4), none, none, none]) (st' := [.ref l1]) bf266_921 bf266_922 rfl rfl).trans ?_
  refine (bu (ls'' := [some (.ref l0), some (.ref l1), some (.ref l2), some (.ref l3), some (.int l4), none, none, none]) (st' := [.ref l0, .ref l1]) bf266_922 bf266_923 rfl rfl).trans ?_
  refine (bu (ls'' := [some (.ref l0), some (.ref l1), some (.ref l2), some (.ref l3), some (.int l4), none, none, none]) (st' := [.int l4, .ref l0, .ref l1]) bf266_923 bf266_925 rfl rfl).trans ?_
  refine (bu (ls'' := [some (.ref l0), some (.ref l1), some (.ref l2), some (.ref l3), some (.int l4), none, none, none]) (st' := [.int (nI 1), .int l4, .ref l0, .ref l1]) bf266_925 bf266_926 rfl rfl).trans ?_
  refine (bu (ls'' := [some (.ref l0), some (.ref l1), some (.ref l2), some (.ref l3), some (.int l4), none, none, none]) (st' := [.int (l4 + (nI 1)), .ref l0, .ref l1]) bf266_926 bf266_927 rfl rfl).trans ?_
  exact bh bf266_927 bf266_928 rfl (fun _ _ => am_ge_rf w) rfl
theorem bk266_949 {w : am_Wd} {l0 : Nat} {l1 : Nat} {l2 : Nat} {l3 : Nat} {l4 : Int32} : am_run 266 949 [some (.ref l0), some (.ref l1), some (.ref l2), some (.ref l3), some (.int l4), none, none, none] [] w = (am_ri 0 w l0 (l4 + (nI 1))).bind fun v => am_run 266 956 [some (.ref l0), some (.ref l1), some (.ref l2), some (.ref l3), some (.int l4), none, none, none] (.int v :: [.ref l1]) w := by
  refine (bu (ls'' := [some (.ref l0), some (.ref l1), some (.ref l2), some (.ref l3), some (.int l4), none, none, none]) (st' := [.ref l1]) bf266_949 bf266_950 rfl rfl).trans ?_
  refine (bu (ls'' := [some (.ref l0), some (.ref l1), some (.ref l2), some (.ref l3), some (.int l4), none, none, none]) (st' := [.ref l0, .ref l1]) bf266_950 bf266_951 rfl rfl).trans ?_
  refine (bu (ls'' := [some (.ref l0), some (.ref l1), some (.ref l2), some (.ref l3), some (.int l4), none, none, none]) (st' := [.int l4, .ref l0, .ref l1]) bf266_951 bf266_953 rfl rfl).trans ?_
  refine (bu (ls'' := [some (.ref l0), some (.ref l1), some (.ref l2), some (.ref l3), some (.int l4), none, none, none]) (st' := [.int (nI 1), .int l4, .ref l0, .ref l1]) bf266_953 bf266_954 rfl rfl).trans ?_
  refine (bu (ls'' := [some (.ref l0), some (.ref l1), some (.ref l2), some (.ref l3), some (.int l4), none, none, none]) (st' := [.int (l4 + (nI 1)), .ref l0, .ref l1]) bf266_954 bf266_955 rfl rfl).trans ?_
  exact bh bf266_955 bf266_956 rfl (fun _ _ => am_ge_rf w) rfl
theorem bk266_977 {w : am_Wd} {l0 : Nat} {l1 : Nat} {l2 : Nat} {l3 : Nat} {l4 : Int32} : am_run 266 977 [some (.ref l0), some (.ref l1), some (.ref l2), some (.ref l3), some (.int l4), none, none, none] [] w = (am_ri 0 w l0 (l4 + (nI 1))).bind fun v => am_run 266 984 [some (.ref l0), some (.ref l1), some (.ref l2), some (.ref l3), some (.int l4), none, none, none] (.int v :: [.ref l1]) w := by
  refine (bu (ls'' := [some (.ref l0), some (.ref l1), some (.ref l2), some (.ref l3), some (.int l4), none, none, none]) (st' := [.ref l1]) bf266_977 bf266_978 rfl rfl).trans ?_
  refine (bu (ls'' := [some (.ref l0), some (.ref l1), some (.ref l2), some (.ref l3), some (.int l4), none, none, none]) (st' := [.ref l0, .ref l1]) bf266_978 bf266_979 rfl rfl).trans ?_
  refine (bu (ls'' := [some (.ref l0), some (.ref l1), some (.ref l2), some (.ref l3), some (.int l4), none, none, none]) (st' := [.int l4, .ref l0, .ref l1]) bf266_979 bf266_981 rfl rfl).trans ?_
  refine (bu (ls'' := [some (.ref l0), some (.ref l1), some (.ref l2), some (.ref l3), some (.int l4), none, none, none]) (st' := [.int (nI 1), .int l4, .ref l0, .ref l1]) bf266_981 bf266_982 rfl rfl).trans ?_
  refine (bu (ls'' := [some (.ref l0), some (.ref l1), some (.ref l2), some (.ref l3), some (.int l4), none, none, none]) (st' := [.int (l4 + (nI 1)), .ref l0, .ref l1]) bf266_982 bf266_983 rfl rfl).trans ?_
  exact bh bf266_983 bf266_984 rfl (fun _ _ => am_ge_rf w) rfl
theorem bk266_1029 {w : am_Wd} {l0 : Nat} {l1 : Nat} {l2 : Nat} {l3 : Nat} {l4 : Int32} : am_run 266 1029 [some (.ref l0), some (.ref l1), some (.ref l2), some (.ref l3), some (.int l4), none, none, none] [] w = (am_ri 0 w l0 (l4 + (nI 1))).bind fun v => am_run 266 1036 [some (.ref l0), some (.ref l1), some (.ref l2), some (.ref l3), some (.int l4), none, none, none] (.int v :: [.ref l1]) w := by
  refine (bu (ls'' := [some (.ref l0), some (.ref l1), some (.ref l2), some (.ref l3), some (.int l4), none, none, none]) (st' := [.ref l1]) bf266_1029 bf266_1030 rfl rfl).trans ?_
  refine (bu (ls'' := [some (.ref l0), some (.ref l1), some (.ref l2), some (.ref l3), some (.int l4), none, none, none]) (st' := [.ref l0, .ref l1]) bf266_1030 bf266_1031 rfl rfl).trans ?_
  refine (bu (ls'' := [some (.ref l0), some (.ref l1), some (.ref l2), some (.ref l3), some (.int l4), none, none, none]) (st' := [.int l4, .ref l0, .ref l1]) bf266_1031 bf266_1033 rfl rfl).trans ?_
  refine (bu (ls'' := [some (.ref l0), some (.ref l1), some (.ref l2), some (.ref l3), some (.int l4), none, none, none]) (st' := [.int (nI 1), .int l4, .ref l0, .ref l1]) bf266_1033 bf266_1034 rfl rfl).trans ?_
  refine (bu (ls'' := [some (.ref l0), some (.ref l1), some (.ref l2), some (.ref l3), some (.int l4), none, none, none]) (st' := [.int (l4 + (nI 1)), .ref l0, .ref l1]) bf266_1034 bf266_1035 rfl rfl).trans ?_
  exact bh bf266_1035 bf266_1036 rfl (fun _ _ => am_ge_rf w) rfl
theorem bk266_1069 {w : am_Wd} {l0 : Nat} {l1 : Nat} {l2 : Nat} {l3 : Nat} {l4 : Int32} : am_run 266 1069 [some (.ref l0), some (.ref l1), some (.ref l2), some (.ref l3), some (.int l4), none, none, none] [] w = (am_ri 0 w l0 (l4 + (nI 1))).bind fun v => am_run 266 1076 [some (.ref l0), some (.ref l1), some (.ref l2), some (.ref l3), some (.int l4), none, none, none] (.int v :: [.ref l1]) w := by
  refine (bu (ls'' := [some (.ref l0), some (.ref l1), some (.ref l2), some (.ref l3), some (.int l4), none, none, none]) (st' := [.ref l1]) bf266_1069 bf266_1070 rfl rfl).trans ?_
  refine (bu (ls'' := [some (.ref l0), some (.ref l1), some (.ref l2), some (.ref l3), some (.int l4), none, none, none]) (st' := [.ref l0, .ref l1]) bf266_1070 bf266_1071 rfl rfl).trans ?_
  refine (bu (ls'' := [some (.ref l0), some (.ref l1), some (.ref l2), some (.ref l3), some (.int l4), none, none, none]) (st' := [.int l4, .ref l0, .ref l1]) bf266_1071 bf266_1073 rfl rfl).trans ?_
  refine (bu (ls'' := [some (.ref l0), some (.ref l1), some (.ref l2), some (.ref l3), some (.int l4), none, none, none]) (st' := [.int (nI 1), .int l4, .ref l0, .ref l1]) bf266_1073 bf266_1074 rfl rfl).trans ?_
  refine (bu (ls'' := [some (.ref l0), some (.ref l1), some (.ref l2), some (.ref l3), some (.int l4), none, none, none]) (st' := [.int (l4 + (nI 1)), .ref l0, .ref l1]) bf266_1074 bf266_1075 rfl rfl).trans ?_
  exact bh bf266_1075 bf266_1076 rfl (fun _ _ => am_ge_rf w) rfl
theorem bk266_1109 {w : am_Wd} {l0 : Nat} {l1 : Nat} {l2 : Nat} {l3 : Nat} {l4 : Int32} : am_run 266 1109 [some (.ref l0), some (.ref l1), some (.ref l2), some (.ref l3), some (.int l4), none, none, none] [] w = (am_ri 0 w l0 (l4 + (nI 1))).bind fun v => am_run 266 1116 [some (.ref l0), some (.ref l1), some (.ref l2), some (.ref l3), some (.int l4), none, none, none] (.int v :: [.ref l1]) w := by
  refine (bu (ls'' := [some (.ref l0), some (.ref l1), some (.ref l2), some (.ref l3), some (.int l4), none, none, none]) (st' := [.ref l1]) bf266_1109 bf266_1110 rfl rfl).trans ?_
  refine (bu (ls'' := [some (.ref l0), some (.ref l1), some (.ref l2), some (.ref l3), some (.int l4), none, none, none]) (st' := [.ref l0, .ref l1]) bf266_1110 bf266_1111 rfl rfl).trans ?_
  refine (bu (ls'' := [some (.ref l0), some (.ref l1), some (.ref l2), some (.ref l3), some (.int l4), none, none, none]) (st' := [.int l4, .ref l0, .ref l1]) bf266_1111 bf266_1113 rfl rfl).trans ?_
  refine (bu (ls'' := [some (.ref l0), some (.ref l1), some (.ref l2), some (.ref l3), some (.int l4), none, none, none]) (st' := [.int (nI 1), .int l4, .ref l0, .ref l1]) bf266_1113 bf266_1114 rfl rfl).trans ?_
  refine (bu (ls'' := [some (.ref l0), some (.ref l1), some (.ref l2), some (.ref l3), some (.int l4), none, none, none]) (st' := [.int (l4 + (nI 1)), .ref l0, .ref l1]) bf266_1114 bf266_1115 rfl rfl).trans ?_
  exact bh bf266_1115 bf266_1116 rfl (fun _ _ => am_ge_rf w) rfl
theorem bk266_1161 {w : am_Wd} {l0 : Nat} {l1 : Nat} {l2 : Nat} {l3 : Nat} {l4 : Int32} : am_run 266 1161 [some (.ref l0), some (.ref l1), some (.ref l2), some (.ref l3), some (.int l4), none, none, none] [] w = (am_ri 0 w l0 (l4 + (nI 1))).bind fun v => am_run 266 1168 [some (.ref l0), some (.ref l1), some (.ref l2), some (.ref l3), some (.int l4), none, none, none] (.int v :: [.ref l1]) w := by
  refine (bu (ls'' := [some (.ref l0), some (.ref l1), some (.ref l2), some (.ref l3), some (.int l4), none, none, none]) (st' := [.ref l1]) bf266_1161 bf266_1162 rfl rfl).trans ?_
  refine (bu (ls'' := [some (.ref l0), some (.ref l1), some (.ref l2), some (.ref l3), some (.int l4), none, none, none]) (st' := [.ref l0, .ref l1]) bf266_1162 bf266_1163 rfl rfl).trans ?_
  refine (bu (ls'' := [some (.ref l0), some (.ref l1), some (.ref l2), some (.ref l3), some (.int l4), none, none, none]) (st' := [.int l4, .ref l0, .ref l1]) bf266_1163 bf266_1165 rfl rfl).trans ?_
  refine (bu (ls'' := [some (.ref l0), some (.ref l1), some (.ref l2), some (.ref l3), some (.int l4), none, none, none]) (st' := [.int (nI 1), .int l4, .ref l0, .ref l1]) bf266_1165 bf266_1166 rfl rfl).trans ?_
  refine (bu (ls'' := [some (.ref l0), some (.ref l1), some (.ref l2), some (.ref l3), some (.int l4), none, none, none]) (st' := [.int (l4 + (nI 1)), .ref l0, .ref l1]) bf266_1166 bf266_1167 rfl rfl).trans ?_
  exact bh bf266_1167 bf266_1168 rfl (fun _ _ => am_ge_rf w) rfl
theorem bk266_1201 {w : am_Wd} {l0 : Nat} {l1 : Nat} {l2 : Nat} {l3 : Nat} {l4 : Int32} : am_run 266 1201 [some (.ref l0), some (.ref l1), some (.ref l2), some (.ref l3), some (.int l4), none, none, none] [] w = (am_ri 0 w l0 (l4 + (nI 1))).bind fun v => am_run 266 1208 [some (.ref l0), some (.ref l1), some (.ref l2), some (.ref l3), some (.int l4), none, none, none] (.int v :: [.ref l1]) w := by
  refine (bu (ls'' := [some (.ref l0), some (.ref l1), some (.ref l2), some (.ref l3), some (.int l4), none, none, none]) (st' := [.ref l1]) bf266_1201 bf266_1202 rfl rfl).trans ?_
  refine (bu (ls'' := [some (.ref l0), some (.ref l1), some (.ref l2), some (.ref l3), some (.int l4), none, none, none]) (st' := [.ref l0, .ref l1]) bf266_1202 bf266_1203 rfl rfl).trans ?_
  refine (bu (ls'' := [some (.ref l0), some (.ref l1), some (.ref l2), some (.ref l3), some (.int l4), none, none, none]) (st' := [.int l4, .ref l0, .ref l1]) bf266_1203 bf266_1205 rfl rfl).trans ?_
  refine (bu (ls'' := [some (.ref l0), some (.ref l1), some (.ref l2), some (.ref l3), some (.int l4), none, none, none]) (st' := [.int (nI 1), .int l4, .ref l0, .ref l1]) bf266_1205 bf266_1206 rfl rfl).trans ?_
  refine (bu (ls'' := [some (.ref l0), some (.ref l1), some (.ref l2), some (.ref l3), some (.int l4), none, none, none]) (st' := [.int (l4 + (nI 1)), .ref l0, .ref l1]) bf266_1206 bf266_1207 rfl rfl).trans ?_
  exact bh bf266_1207 bf266_1208 rfl (fun _ _ => am_ge_rf w) rfl
theorem bk266_1229 {w : am_Wd} {l0 : Nat} {l1 : Nat} {l2 : Nat} {l3 : Nat} {l4 : Int32} : am_run 266 1229 [some (.ref l0), some (.ref l1), some (.ref l2), some (.ref l3), some (.int l4), none, none, none] [] w = (am_ri 0 w l0 (l4 + (nI 1))).bind fun v => am_run 266 1236 [some (.ref l0), some (.ref l1), some (.ref l2), some (.ref l3), some (.int l4), none, none, none] (.int v :: [.ref l1]) w := by
  refine (bu (ls'' := [some (.ref l0), some (.ref l1), some (.ref l2), some (.ref l3), some (.int l4), none, none, none]) (st' := [.ref l1]) bf266_1229 bf266_1230 rfl rfl).trans ?_
  refine (bu (ls'' := [some (.ref l0), some (.ref l1), some (.ref l2), some (.ref l3), some (.int l4), none, none, none]) (st' := [.ref l0, .ref l1]) bf266_1230 bf266_1231 rfl rfl).trans ?_
  refine (bu (ls'' := [some (.ref l0), some (.ref l1), some (.ref l2), some (.ref l3), some (.int l4), none, none, none]) (st' := [.int l4, .ref l0, .ref l1]) bf266_1231 bf266_1233 rfl rfl).trans ?_
  refine (bu (ls'' := [some (.ref l0), some (.ref l1), some (.ref l2), some (.ref l3), some (.int l4), none, none, none]) (st' := [.int (nI 1), .int l4, .ref l0, .ref l1]) bf266_1233 bf266_1234 rfl rfl).trans ?_
  refine (bu (ls'' := [some (.ref l0), some (.ref l1), some (.ref l2), some (.ref l3), some (.int l4), none, none, none]) (st' := [.int (l4 + (nI 1)), .ref l0, .ref l1]) bf266_1234 bf266_1235 rfl rfl).trans ?_
  exact bh bf266_1235 bf266_1236 rfl (fun _ _ => am_ge_rf w) rfl
theorem bk266_1269 {w : am_Wd} {l0 : Nat} {l1 : Nat} {l2 : Nat} {l3 : Nat} {l4 : Int32} : am_run 266 1269 [some (.ref l0), some (.ref l1), some (.ref l2), some (.ref l3), some (.int l4), none, none, none] [] w = (am_ri 0 w l0 (l4 + (nI 1))).bind fun v => am_run 266 1276 [some (.ref l0), some (.ref l1), some (.ref l2), some (.ref l3), some (.int l4), none, none, none] (.int v :: [.ref l1]) w := by
  refine (bu (ls'' := [some (.ref l0), some (.ref l1), some (.ref l2), some (.ref l3), some (.int l4), none, none, none]) (st' := [.ref l1]) bf266_1269 bf266_1270 rfl rfl).trans ?_
  refine (bu (ls'' := [some (.ref l0), some (.ref l1), some (.ref l2), some (.ref l3), some (.int l4), none, none, none]) (st' := [.ref l0, .ref l1]) bf266_1270 bf266_1271 rfl rfl).trans ?_
  refine (bu (ls'' := [some (.ref l0), some (.ref l1), some (.ref l2), some (.ref l3), some (.int l4), none, none, none]) (st' := [.int l4, .ref l0, .ref l1]) bf266_1271 bf266_1273 rfl rfl).trans ?_
  refine (bu (ls'' := [some (.ref l0), some (.ref l1), some (.ref l2), some (.ref l3), some (.int l4), none, none, none]) (st' := [.int (nI 1), .int l4, .ref l0, .ref l1]) bf266_1273 bf266_1274 rfl rfl).trans ?_
  refine (bu (ls'' := [some (.ref l0), some (.ref l1), some (.ref l2), some (.ref l3), some (.int l4), none, none, none]) (st' := [.int (l4 + (nI 1)), .ref l0, .ref l1]) bf266_1274 bf266_1275 rfl rfl).trans ?_
  exact bh bf266_1275 bf266_1276 rfl (fun _ _ => am_ge_rf w) rfl
theorem bk266_1297 {w : am_Wd} {l0 : Nat} {l1 : Nat} {l2 : Nat} {l3 : Nat} {l4 : Int32} : am_run 266 1297 [some (.ref l0), some (.ref l1), some (.ref l2), some (.ref l3), some (.int l4), none, none, none] [] w = (am_ri 0 w l0 (l4 + (nI 1))).bind fun v => am_run 266 1304 [some (.ref l0), some (.ref l1), some (.ref l2), some (.ref l3), some (.int l4), none, none, none] (.int v :: [.ref l1]) w := by
  refine (bu (ls'' := [some (.ref l0), some (.ref l1), some (.ref l2), some (.ref l3), some (.int l4), none, none, none]) (st' := [.ref l1]) bf266_1297 bf266_1298 rfl rfl).trans ?_
  refine (bu (ls'' := [some (.ref l0), some (.ref l1), some (.ref l2), some (.ref l3), some (.int l4), none, none, none]) (st' := [.ref l0, .ref l1]) bf266_1298 bf266_1299 rfl rfl).trans ?_
  refine (bu (ls'' := [some (.ref l0), some (.ref l1), some (.ref l2), some (.ref l3), some (.int l4), none, none, none]) (st' := [.int l4, .ref l0, .ref l1]) bf266_1299 bf266_1301 rfl rfl).trans ?_
  refine (bu (ls'' := [some (.ref l0), some (.ref l1), some (.ref l2), some (.ref l3), some (.int l4), none, none, none]) (st' := [.int (nI 1), .int l4, .ref l0, .ref l1]) bf266_1301 bf266_1302 rfl rfl).trans ?_
  refine (bu (ls'' := [some (.ref l0), some (.ref l1), some (.ref l2), some (.ref l3), some (.int l4), none, none, none]) (st' := [.int (l4 + (nI 1)), .ref l0, .ref l1]) bf266_1302 bf266_1303 rfl rfl).trans ?_
  exact bh bf266_1303 bf266_1304 rfl (fun _ _ => am_ge_rf w) rfl
theorem bk266_1337 {w : am_Wd} {l0 : Nat} {l1 : Nat} {l2 : Nat} {l3 : Nat} {l4 : Int32} : am_run 266 1337 [some (.ref l0), some (.ref l1), some (.ref l2), some (.ref l3), some (.int l4), none, none, none] [] w = (am_ri 0 w l0 (l4 + (nI 1))).bind fun v => am_run 266 1344 [some (.ref l0), some (.ref l1), some (.ref l2), some (.ref l3), some (.int l4), none, none, none] (.int v :: [.ref l1]) w := by
  refine (bu (ls'' := [some (.ref l0), some (.ref l1), some (.ref l2), some (.ref l3), some (.int l4), none, none, none]) (st' := [.ref l1]) bf266_1337 bf266_1338 rfl rfl).trans ?_
  refine (bu (ls'' := [some (.ref l0), some (.ref l1), some (.ref l2), some (.ref l3), some (.int l4), none, none, none]) (st' := [.ref l0, .ref l1]) bf266_1338 bf266_1339 rfl rfl).trans ?_
  refine (bu (ls'' := [some (.ref l0), some (.ref l1), some (.ref l2), some (.ref l3), some (.int l4), none, none, none]) (st' := [.int l4, .ref l0, .ref l1]) bf266_1339 bf266_1341 rfl rfl).trans ?_
  refine (bu (ls'' := [some (.ref l0), some (.ref l1), some (.ref l2), some (.ref l3), some (.int l4), none, none, none]) (st' := [.int (nI 1), .int l4, .ref l0, .ref l1]) bf266_1341 bf266_1342 rfl rfl).trans ?_
  refine (bu (ls'' := [some (.ref l0), some (.ref l1), some (.ref l2), some (.ref l3), some (.int l4), none, none, none]) (st' := [.int (l4 + (nI 1)), .ref l0, .ref l1]) bf266_1342 bf266_1343 rfl rfl).trans ?_
  exact bh bf266_1343 bf266_1344 rfl (fun _ _ => am_ge_rf w) rfl
theorem bk266_1377 {w : am_Wd} {l0 : Nat} {l1 : Nat} {l2 : Nat} {l3 : Nat} {l4 : Int32} : am_run 266 1377 [some (.ref l0), some (.ref l1), some (.ref l2), some (.ref l3), some (.int l4), none, none, none] [] w = (am_kf w l1 8).bind fun _ => (am_x 224 [.ref l1] w).bind fun r => bct r fun v w' => am_run 266 1381 [some (.ref l0), some (.ref l1), some (.ref l2), some (.ref l3), some (.int l4), none, none, none] (v.toList ++ []) w' := by
  refine (bu (ls'' := [some (.ref l0), some (.ref l1), some (.ref l2), some (.ref l3), some (.int l4), none, none, none]) (st' := [.ref l1]) bf266_1377 bf266_1378 rfl rfl).trans ?_
  exact bkV bf266_1378 bf266_1381 rfl (by decide +kernel) (Nat.le_of_ble_eq_true rfl) rfl (bhd rfl)
theorem bk266_1390 {w : am_Wd} {l0 : Nat} {l1 : Nat} {l2 : Nat} {l3 : Nat} {l4 : Int32} : am_run 266 1390 [some (.ref l0), some (.ref l1), some (.ref l2), some (.ref l3), some (.int l4), none, none, none] [] w = (am_kf w l1 8).bind fun _ => (am_x 250 [.ref l1] w).bind fun r => bct r fun v w' => am_run 266 1394 [some (.ref l0), some (.ref l1), some (.ref l2), some (.ref l3), some (.int l4), none, none, none] (v.toList ++ []) w' := by
  refine (bu (ls'' := [some (.ref l0), some (.ref l1), some (.ref l2), some (.ref l3), some (.int l4), none, none, none]) (st' := [.ref l1]) bf266_1390 bf266_1391 rfl rfl).trans ?_
  exact bkV bf266_1391 bf266_1394 rfl (by decide +kernel) (Nat.le_of_ble_eq_true rfl) rfl (bhd rfl)
theorem bk266_1404 {w : am_Wd} {l0 : Nat} {l1 : Nat} {l2 : Nat} {l3 : Nat} {l4 : Int32} : am_run 266 1404 [some (.ref l0), some (.ref l1), some (.ref l2), some (.ref l3), some (.int l4), none, none, none] [] w = am_run 266 27 [some (.ref l0), some (.ref l1), some (.ref l2), some (.ref l3), some (.int (l4 + (nI 5))), none, none, none] [] w := by
  refine (bu (ls'' := [some (.ref l0), some (.ref l1), some (.ref l2), some (.ref l3), some (.int (l4 + (nI 5))), none, none, none]) (st' := []) bf266_1404 bf266_1407 rfl rfl).trans ?_
  refine (bu (ls'' := [some (.ref l0), some (.ref l1), some (.ref l2), some (.ref l3), some (.int (l4 + (nI 5))), none, none, none]) (st' := []) bf266_1407 bf266_27 rfl rfl).trans ?_
  rfl
theorem bk266_179 {w : am_Wd} {l0 : Nat} {l1 : Nat} {l2 : Nat} {l3 : Nat} {l4 : Int32} {s0 : Int32} {s1 : Nat} : am_run 266 179 [some (.ref l0), some (.ref l1), some (.ref l2), some (.ref l3), some (.int l4), none, none, none] [.int s0, .ref s1] w = (am_ri 0 w l0 (l4 + (nI 2))).bind fun v => am_run 266 185 [some (.ref l0), some (.ref l1), some (.ref l2), some (.ref l3), some (.int l4), none, none, none] (.int v :: [.int s0, .ref s1]) w := by
  refine (bu (ls'' := [some (.ref l0), some (.ref l1), some (.ref l2), some (.ref l3), some (.int l4), none, none, none]) (st' := [.ref l0, .int s0, .ref s1]) bf266_179 bf266_180 rfl rfl).trans ?_
  refine (bu (ls'' := [some (.ref l0), some (.ref l1), some (.ref l2), some (.ref l3), some (.int l4), none, none, none]) (st' := [.int l4, .ref l0, .int s0, .ref s1]) bf266_180 bf266_182 rfl rfl).trans ?_
  refine (bu (ls'' := [some (.ref l0), some (.ref l1), some (.ref l2), some (.ref l3), some (.int l4), none, none, none]) (st' := [.int (nI 2), .int l4, .ref l0, .int s0, .ref s1]) bf266_182 bf266_183 rfl rfl).trans ?_
  refine (bu (ls'' := [some (.ref l0), some (.ref l1), some (.ref l2), some (.ref l3), some (.int l4), none, none, none]) (st' := [.int (l4 + (nI 2)), .ref l0, .int s0, .ref s1]) bf266_183 bf266_184 rfl rfl).trans ?_
  exact bh bf266_184 bf266_185 rfl (fun _ _ => am_ge_rf w) rfl
theorem bk266_243 {w : am_Wd} {l0 : Nat} {l1 : Nat} {l2 : Nat} {l3 : Nat} {l4 : Int32} {s0 : Int32} {s1 : Nat} : am_run 266 243 [some (.ref l0), some (.ref l1), some (.ref l2), some (.ref l3), some (.int l4), none, none, none] [.int s0, .ref s1] w = (am_x 233 [.ref s1, .int s0, .ref l3] w).bind fun r => bct r fun v w' => am_run 266 247 [some (.ref l0), some (.ref l1), some (.ref l2), some (.ref l3), some (.int l4), none, none, none] (v.toList ++ []) w' := by
  refine (bu (ls'' := [some (.ref l0), some (.ref l1), some (.ref l2), some (.ref l3), some (.int l4), none, none, none]) (st' := [.ref l3, .int s0, .ref s1]) bf266_243 bf266_244 rfl rfl).trans ?_
  exact bkS bf266_244 bf266_247 rfl (by decide +kernel) (Nat.le_of_ble_eq_true rfl) rfl (bhd rfl)
theorem bk266_271 {w : am_Wd} {l0 : Nat} {l1 : Nat} {l2 : Nat} {l3 : Nat} {l4 : Int32} {s0 : Int32} {s1 : Nat} : am_run 266 271 [some (.ref l0), some (.ref l1), some (.ref l2), some (.ref l3), some (.int l4), none, none, none] [.int s0, .ref s1] w = (am_ri 0 w l0 (l4 + (nI 2))).bind fun v => am_run 266 277 [some (.ref l0), some (.ref l1), some (.ref l2), some (.ref l3), some (.int l4), none, none, none] (.int v :: [.int s0, .ref s1]) w := by
  refine (bu (ls'' := [some (.ref l0), some (.ref l1), some (.ref l2), some (.ref l3), some (.int l4), none, none, none]) (st' := [.ref l0, .int s0, .ref s1]) bf266_271 bf266_272 rfl rfl).trans ?_
  refine (bu (ls'' := [some (.ref l0), some (.ref l1), some (.ref l2), some (.ref l3), some (.int l4), none, none, none]) (st' := [.int l4, .ref l0, .int s0, .ref s1]) bf266_272 bf266_274 rfl rfl).trans ?_
  refine (bu (ls'' := [some (.ref l0), some (.ref l1), some (.ref l2), some (.ref l3), some (.int l4), none, none, none]) (st' := [.int (nI 2), .int l4, .ref l0, .int s0, .ref s1]) bf266_274 bf266_275 rfl rfl).trans ?_
  refine (bu (ls'' := [some (.ref l0), some (.ref l1), some (.ref l2), some (.ref l3), some (.int l4), none, none, none]) (st' := [.int (l4 + (nI 2)), .ref l0, .int s0, .ref s1]) bf266_275 bf266_276 rfl rfl).trans ?_
  exact bh bf266_276 bf266_277 rfl (fun _ _ => am_ge_rf w) rfl
theorem bk266_355 {w : am_Wd} {l0 : Nat} {l1 : Nat} {l2 : Nat} {l3 : Nat} {l4 : Int32} {s0 : Int32} {s1 : Nat} : am_run 266 355 [some (.ref l0), some (.ref l1), some (.ref l2), some (.ref l3), some (.int l4), none, none, none] [.int s0, .ref s1] w = (am_ri 0 w l0 (l4 + (nI 2))).bind fun v => am_run 266 361 [some (.ref l0), some (.ref l1), some (.ref l2), some (.ref l3), some (.int l4), none, none, none] (.int v :: [.int s0, .ref s1]) w := by
  refine (bu (ls'' := [some (.ref l0), some (.ref l1), some (.ref l2), some (.ref l3), some (.int l4), none, none, none]) (st' := [.ref l0, .int s0, .ref s1]) bf266_355 bf266_356 rfl rfl).trans ?_
  refine (bu (ls'' := [some (.ref l0), some (.ref l1), some (.ref l2), some (.ref l3), some (.int l4), none, none, none]) (st' := [.int l4, .ref l0, .int s0, .ref s1]) bf266_356 bf266_358 rfl rfl).trans ?_
  refine (bu (ls'' := [some (.ref l0), some (.ref l1), some (.ref l2), some (.ref l3), some (.int l4), none, none, none]) (st' := [.int (nI 2), .int l4, .ref l0, .int s0, .ref s1]) bf266_358 bf266_359 rfl rfl).trans ?_
  refine (bu (ls'' := [some (.ref l0), some (.ref l1), some (.ref l2), some (.ref l3), some (.int l4), none, none, none]) (st' := [.int (l4 + (nI 2)), .ref l0, .int s0, .ref s1]) bf266_359 bf266_360 rfl rfl).trans ?_
  exact bh bf266_360 bf266_361 rfl (fun _ _ => am_ge_rf w) rfl
theorem bk266_435 {w : am_Wd} {l0 : Nat} {l1 : Nat} {l2 : Nat} {l3 : Nat} {l4 : Int32} {s0 : Int32} {s1 : Nat} : am_run 266 435 [some (.ref l0), some (.ref l1), some (.ref l2), some (.ref l3), some (.int l4), none, none, none] [.int s0, .ref s1] w = (am_ri 0 w l0 (l4 + (nI 2))).bind fun v => am_run 266 441 [some (.ref l0), some (.ref l1), some (.ref l2), some (.ref l3), some (.int l4), none, none, none] (.int v :: [.int s0, .ref s1]) w := by
  refine (bu (ls'' := [some (.ref l0), some (.ref l1), some (.ref l2), some (.ref l3), some (.int l4), none, none, none]) (st' := [.ref l0, .int s0, .ref s1]) bf266_435 bf266_436 rfl rfl).trans ?_
  refine (bu (ls'' := [some (.ref l0), some (.ref l1), some (.ref l2), some (.ref l3), some (.int l4), none, none, none]) (st' := [.int l4, .ref l0, .int s0, .ref s1]) bf266_436 bf266_438 rfl rfl).trans ?_
  refine (bu (ls'' := [some (.ref l0), some (.ref l1), some (.ref l2), some (.ref l3), some (.int l4), none, none, none]) (st' := [.int (nI 2), .int l4, .ref l0, .int s0, .ref s1]) bf266_438 bf266_439 rfl rfl).trans ?_
  refine (bu (ls'' := [some (.ref l0), some (.ref l1), some (.ref l2), some (.ref l3), some (.int l4), none, none, none]) (st' := [.int (l4 + (nI 2)), .ref l0, .int s0, .ref s1]) bf266_439 bf266_440 rfl rfl).trans ?_
  exact bh bf266_440 bf266_441 rfl (fun _ _ => am_ge_rf w) rfl
theorem bk266_491 {w : am_Wd} {l0 : Nat} {l1 : Nat} {l2 : Nat} {l3 : Nat} {l4 : Int32} {s0 : Int32} {s1 : Nat} : am_run 266 491 [some (.ref l0), some (.ref l1), some (.ref l2), some (.ref l3), some (.int l4), none, none, none] [.int s0, .ref s1] w = (am_ri 0 w l0 (l4 + (nI 2))).bind fun v => am_run 266 497 [some (.ref l0), some (.ref l1), some (.ref l2), some (.ref l3), some (.int l4), none, none, none] (.int v :: [.int s0, .ref s1]) w := by
  refine (bu (ls'' := [some (.ref l0), some (.ref l1), some (.ref l2), some (.ref l3), some (.int l4), none, none, none]) (st' := [.ref l0, .int s0, .ref s1]) bf266_491 bf266_492 rfl rfl).trans ?_
  refine (bu (ls'' := [some (.ref l0), some (.ref l1), some (.ref l2), some (.ref l3), some (.int l4), none, none, none]) (st' := [.int l4, .ref l0, .int s0, .ref s1]) bf266_492 bf266_494 rfl rfl).trans ?_
  refine (bu (ls'' := [some (.ref l0), some (.ref l1), some (.ref l2), some (.ref l3), some (.int l4), none, none, none]) (st' := [.int (nI 2), .int l4, .ref l0, .int s0, .ref s1]) bf266_494 bf266_495 rfl rfl).trans ?_
  refine (bu (ls'' := [some (.ref l0), some (.ref l1), some (.ref l2), some (.ref l3), some (.int l4), none, none, none]) (st' := [.int (l4 + (nI 2)), .ref l0, .int s0, .ref s1]) bf266_495 bf266_496 rfl rfl).trans ?_
  exact bh bf266_496 bf266_497 rfl (fun _ _ => am_ge_rf w) rfl
theorem bk266_575 {w : am_Wd} {l0 : Nat} {l1 : Nat} {l2 : Nat} {l3 : Nat} {l4 : Int32} {s0 : Int32} {s1 : Nat} : am_run 266 575 [some (.ref l0), some (.ref l1), some (.ref l2), some (.ref l3), some (.int l4), none, none, none] [.int s0, .ref s1] w = (am_ri 0 w l0 (l4 + (nI 2))).bind fun v => am_run 266 581 [some (.ref l0), some (.ref l1), some (.ref l2), some (.ref l3), some (.int l4), none, none, none] (.int v :: [.int s0, .ref s1]) w := by
  refine (bu (ls'' := [some (.ref l0), some (.ref l1), some (.ref l2), some (.ref l3), some (.int l4), none, none, none]) (st' := [.ref l0, .int s0, .ref s1]) bf266_575 bf266_576 rfl rfl).trans ?_
  refine (bu (ls'' := [some (.ref l0), some (.ref l1), some (.ref l2), some (.ref l3), some (.int l4), none, none, none]) (st' := [.int l4, .ref l0, .int s0, .ref s1]) bf266_576 bf266_578 rfl rfl).trans ?_
  refine (bu (ls'' := [some (.ref l0), some (.ref l1), some (.ref l2), some (.ref l3), some (.int l4), none, none, none]) (st' := [.int (nI 2), .int l4, .ref l0, .int s0, .ref s1]) bf266_578 bf266_579 rfl rfl).trans ?_
  refine (bu (ls'' := [some (.ref l0), some (.ref l1), some (.ref l2), some (.ref l3), some (.int l4), none, none, none]) (st' := [.int (l4 + (nI 2)), .ref l0, .int s0, .ref s1]) bf266_579 bf266_580 rfl rfl).trans ?_
  exact bh bf266_580 bf266_581 rfl (fun _ _ => am_ge_rf w) rfl
theorem bk266_631 {w : am_Wd} {l0 : Nat} {l1 : Nat} {l2 : Nat} {l3 : Nat} {l4 : Int32} {s0 : Int32} {s1 : Nat} : am_run 266 631 [some (.ref l0), some (.ref l1), some (.ref l2), some (.ref l3), some (.int l4), none, none, none] [.int s0, .ref s1] w = (am_ri 0 w l0 (l4 + (nI 2))).bind fun v => am_run 266 637 [some (.ref l0), some (.ref l1), some (.ref l2), some (.ref l3), some (.int l4), none, none, none] (.int v :: [.int s0, .ref s1]) w := by
  refine (bu (ls'' := [some (.ref l0), some (.ref l1), some (.ref l2), some (.ref l3), some (.int l4), none, none, none]) (st' := [.ref l0, .int s0, .ref s1]) bf266_631 bf266_632 rfl rfl).trans ?_
  refine (bu (ls'' := [some (.ref l0), some (.ref l1), some (.ref l2), some (.ref l3), some (.int l4), none, none, none]) (st' := [.int l4, .ref l0, .int s0, .ref s1]) bf266_632 bf266_634 rfl rfl).trans ?_
  refine (bu (ls'' := [some (.ref l0), some (.ref l1), some (.ref l2), some (.ref l3), some (.int l4), none, none, none]) (st' := [.int (nI 2), .int l4, .ref l0, .int s0, .ref s1]) bf266_634 bf266_635 rfl rfl).trans ?_
  refine (bu (ls'' := [some (.ref l0), some (.ref l1), some (.ref l2), some (.ref l3), some (.int l4), none, none, none]) (st' := [.int (l4 + (nI 2)), .ref l0, .int s0, .ref s1]) bf266_635 bf266_636 rfl rfl).trans ?_
  exact bh bf266_636 bf266_637 rfl (fun _ _ => am_ge_rf w) rfl
theorem bk266_687 {w : am_Wd} {l0 : Nat} {l1 : Nat} {l2 : Nat} {l3 : Nat} {l4 : Int32} {s0 : Int32} {s1 : Nat} : am_run 266 687 [some (.ref l0), some (.ref l1), some (.ref l2), some (.ref l3), some (.int l4), none, none, none] [.int s0, .ref s1] w = (am_ri 0 w l0 (l4 + (nI 2))).bind fun v => am_run 266 693 [some (.ref l0), some (.ref l1), some (.ref l2), some (.ref l3), some (.int l4), none, none, none] (.int v :: [.int s0, .ref s1]) w := by
  refine (bu (ls'' := [some (.ref l0), some (.ref l1), some (.ref l2), some (.ref l3), some (.int l4), none, none, none]) (st' := [.ref l0, .int s0, .ref s1]) bf266_687 bf266_688 rfl rfl).trans ?_
  refine (bu (ls'' := [some (.ref l0), some (.ref l1), some (.ref l2), some (.ref l3), some (.int l4), none, none, none]) (st' := [.int l4, .ref l0, .int s0, .ref s1]) bf266_688 bf266_690 rfl rfl).trans ?_
  refine (bu (ls'' := [some (.ref l0), some (.ref l1), some (.ref l2), some (.ref l3), some (.int l4), none, none, none]) (st' := [.int (nI 2), .int l4, .ref l0, .int s0, .ref s1]) bf266_690 bf266_691 rfl rfl).trans ?_
  refine (bu (ls'' := [some (.ref l0), some (.ref l1), some (.ref l2), some (.ref l3), some (.int l4), none, none, none]) (st' := [.int (l4 + (nI 2)), .ref l0, .int s0, .ref s1]) bf266_691 bf266_692 rfl rfl).trans ?_
  exact bh bf266_692 bf266_693 rfl (fun _ _ => am_ge_rf w) rfl
theorem bk266_727 {w : am_Wd} {l0 : Nat} {l1 : Nat} {l2 : Nat} {l3 : Nat} {l4 : Int32} {s0 : Int32} {s1 : Nat} : am_run 266 727 [some (.ref l0), some (.ref l1), some (.ref l2), some (.ref l3), some (.int l4), none, none, none] [.int s0, .ref s1] w = (am_x 188 [.ref s1, .int s0, .ref l3] w).bind fun r => bct r fun v w' => am_run 266 731 [some (.ref l0), some (.ref l1), some (.ref l2), some (.ref l3), some (.int l4), none, none, none] (v.toList ++ []) w' := by
  refine (bu (ls'' := [some (.ref l0), some (.ref l1), some (.ref l2), some (.ref l3), some (.int l4), none, none, none]) (st' := [.ref l3, .int s0, .ref s1]) bf266_727 bf266_728 rfl rfl).trans ?_
  exact bkS bf266_728 bf266_731 rfl (by decide +kernel) (Nat.le_of_ble_eq_true rfl) rfl (bhd rfl)
theorem bk266_755 {w : am_Wd} {l0 : Nat} {l1 : Nat} {l2 : Nat} {l3 : Nat} {l4 : Int32} {s0 : Int32} {s1 : Nat} : am_run 266 755 [some (.ref l0), some (.ref l1), some (.ref l2), some (.ref l3), some (.int l4), none, none, none] [.int s0, .ref s1] w = (am_ri 0 w l0 (l4 + (nI 2))).bind fun v => am_run 266 761 [some (.ref l0), some (.ref l1), some (.ref l2), some (.ref l3), some (.int l4), none, none, none] (.int v :: [.int s0, .ref s1]) w := by
  refine (bu (ls'' := [some (.ref l0), some (.ref l1), some (.ref l2), some (.ref l3), some (.int l4), none, none, none]) (st' := [.ref l0, .int s0, .ref s1]) bf266_755 bf266_756 rfl rfl).trans ?_
  refine (bu (ls'' := [some (.ref l0), some (.ref l1), some (.ref l2), some (.ref l3), some (.int l4), none, none, none]) (st' := [.int l4, .ref l0, .int s0, .ref s1]) bf266_756 bf266_758 rfl rfl).trans ?_
  refine (bu (ls'' := [some (.ref l0), some (.ref l1), some (.ref l2), some (.ref l3), some (.int l4), none, none, none]) (st' := [.int (nI 2), .int l4, .ref l0, .int s0, .ref s1]) bf266_758 bf266_759 rfl rfl).trans ?_
  refine (bu (ls'' := [some (.ref l0), some (.ref l1), some (.ref l2), some (.ref l3), some (.int l4), none, none, none]) (st' := [.int (l4 + (nI 2)), .ref l0, .int s0, .ref s1]) bf266_759 bf266_760 rfl rfl).trans ?_
  exact bh bf266_760 bf266_761 rfl (fun _ _ => am_ge_rf w) rfl
theorem bk266_795 {w : am_Wd} {l0 : Nat} {l1 : Nat} {l2 : Nat} {l3 : Nat} {l4 : Int32} {s0 : Int32} {s1 : Nat} : am_run 266 795 [some (.ref l0), some (.ref l1), some (.ref l2), some (.ref l3), some (.int l4), none, none, none] [.int s0, .ref s1] w = (am_x 189 [.ref s1, .int s0, .ref l3] w).bind fun r => bct r fun v w' => am_run 266 799 [some (.ref l0), some (.ref l1), some (.ref l2), some (.ref l3), some (.int l4), none, none, none] (v.toList ++ []) w' := by
  refine (bu (ls'' := [some (.ref l0), some (.ref l1), some (.ref l2), some (.ref l3), some (.int l4), none, none, none]) (st' := [.ref l3, .int s0, .ref s1]) bf266_795 bf266_796 rfl rfl).trans ?_
  exact bkS bf266_796 bf266_799 rfl (by decide +kernel) (Nat.le_of_ble_eq_true rfl) rfl (bhd rfl)
theorem bk266_820 {w : am_Wd} {l0 : Nat} {l1 : Nat} {l2 : Nat} {l3 : Nat} {l4 : Int32} {s0 : Int32} : am_run 266 820 [some (.ref l0), some (.ref l1), some (.ref l2), some (.ref l3), some (.int l4), none, none, none] [.int s0] w = (am_kf w l2 11).bind fun _ => (am_x 47 [.ref l2] w).bind fun r => bct r fun v w' => am_run 266 825 [some (.ref l0), some (.ref l1), some (.ref l2), some (.ref l3), some (.int l4), none, none, none] (v.toList ++ []) w' := by
  refine (bu (ls'' := [some (.ref l0), some (.ref l1), some (.ref l2), some (.ref l3), some (.int l4), none, none, none]) (st' := []) bf266_820 bf266_821 rfl rfl).trans ?_
  refine (bu (ls'' := [some (.ref l0), some (.ref l1), some (.ref l2), some (.ref l3), some (.int l4), none, none, none]) (st' := [.ref l2]) bf266_821 bf266_822 rfl rfl).trans ?_
  exact bkV bf266_822 bf266_825 rfl (by decide +kernel) (Nat.le_of_ble_eq_true rfl) rfl (bhd rfl)
theorem bk266_836 {w : am_Wd} {l0 : Nat} {l1 : Nat} {l2 : Nat} {l3 : Nat} {l4 : Int32} {s0 : Int32} {s1 : Nat} : am_run 266 836 [some (.ref l0), some (.ref l1), some (.ref l2), some (.ref l3), some (.int l4), none, none, none] [.int s0, .ref s1] w = (am_ri 0 w l0 (l4 + (nI 2))).bind fun v => am_run 266 842 [some (.ref l0), some (.ref l1), some (.ref l2), some (.ref l3), some (.int l4), none, none, none] (.int v :: [.int s0, .ref s1]) w := by
  refine (bu (ls'' := [some (.ref l0), some (.ref l1), some (.ref l2), some (.ref l3), some (.int l4), none, none, none]) (st' := [.ref l0, .int s0, .ref s1]) bf266_836 bf266_837 rfl rfl).trans ?_
  refine (bu (ls'' := [some (.ref l0), some (.ref l1), some (.ref l2), some (.ref l3), some (.int l4), none, none, none]) (st' := [.int l4, .ref l0, .int s0, .ref s1]) bf266_837 bf266_839 rfl rfl).trans ?_
  refine (bu (ls'' := [some (.ref l0), some (.ref l1), some (.ref l2), some (.ref l3), some (.int l4), none, none, none]) (st' := [.int (nI 2), .int l4, .ref l0, .int s0, .ref s1]) bf266_839 bf266_840 rfl rfl).trans ?_
  refine (bu (ls'' := [some (.ref l0), some (.ref l1), some (.ref l2), some (.ref l3), some (.int l4), none, none, none]) (st' := [.int (l4 + (nI 2)), .ref l0, .int s0, .ref s1]) bf266_840 bf266_841 rfl rfl).trans ?_
  exact bh bf266_841 bf266_842 rfl (fun _ _ => am_ge_rf w) rfl
theorem bk266_888 {w : am_Wd} {l0 : Nat} {l1 : Nat} {l2 : Nat} {l3 : Nat} {l4 : Int32} {s0 : Int32} {s1 : Nat} : am_run 266 888 [some (.ref l0), some (.ref l1), some (.ref l2), some (.ref l3), some (.int l4), none, none, none] [.int s0, .ref s1] w = (am_ri 0 w l0 (l4 + (nI 2))).bind fun v => am_run 266 894 [some (.ref l0), some (.ref l1), some (.ref l2), some (.ref l3), some (.int l4), none, none, none] (.int v :: [.int s0, .ref s1]) w := by
  refine (bu (ls'' := [some (.ref l0), some (.ref l1), some (.ref l2), some (.ref l3), some (.int l4), none, none, none]) (st' := [.ref l0, .int s0, .ref s1]) bf266_888 bf266_889 rfl rfl).trans ?_
  refine (bu (ls'' := [some (.ref l0), some (.ref l1), some (.ref l2), some (.ref l3), some (.int l4), none, none, none]) (st' := [.int l4, .ref l0, .int s0, .ref s1]) bf266_889 bf266_891 rfl rfl).trans ?_
  refine (bu (ls'' := [some (.ref l0), some (.ref l1), some (.ref l2), some (.ref l3), some (.int l4), none, none, none]) (st' := [.int (nI 2), .int l4, .ref l0, .int s0, .ref s1]) bf266_891 bf266_892 rfl rfl).trans ?_
  refine (bu (ls'' := [some (.ref l0), some (.ref l1), some (.ref l2), some (.ref l3), some (.int l4), none, none, none]) (st' := [.int (l4 + (nI 2)), .ref l0, .int s0, .ref s1]) bf266_892 bf266_893 rfl rfl).trans ?_
  exact bh bf266_893 bf266_894 rfl (fun _ _ => am_ge_rf w) rfl
theorem bk266_928 {w : am_Wd} {l0 : Nat} {l1 : Nat} {l2 : Nat} {l3 : Nat} {l4 : Int32} {s0 : Int32} {s1 : Nat} : am_run 266 928 [some (.ref l0), some (.ref l1), some (.ref l2), some (.ref l3), some (.int l4), none, none, none] [.int s0, .ref s1] w = (am_x 190 [.ref s1, .int s0, .ref l3] w).bind fun r => bct r fun v w' => am_run 266 932 [some (.ref l0), some (.ref l1), some (.ref l2), some (.ref l3), some (.int l4), none, none, none] (v.toList ++ []) w' := by
  refine (bu (ls'' := [some (.ref l0), some (.ref l1), some (.ref l2), some (.ref l3), some (.int l4), none, none, none]) (st' := [.ref l3, .int s0, .ref s1]) bf266_928 bf266_929 rfl rfl).trans ?_
  exact bkS bf266_929 bf266_932 rfl (by decide +kernel) (Nat.le_of_ble_eq_true rfl) rfl (bhd rfl)
theorem bk266_956 {w : am_Wd} {l0 : Nat} {l1 : Nat} {l2 : Nat} {l3 : Nat} {l4 : Int32} {s0 : Int32} {s1 : Nat} : am_run 266 956 [some (.ref l0), some (.ref l1), some (.ref l2), some (.ref l3), some (.int l4), none, none, none] [.int s0, .ref s1] w = (am_x 257 [.ref s1, .int s0, .ref l3] w).bind fun r => bct r fun v w' => am_run 266 960 [some (.ref l0), some (.ref l1), some (.ref l2), some (.ref l3), some (.int l4), none, none, none] (v.toList ++ []) w' := by
  refine (bu (ls'' := [some (.ref l0), some (.ref l1), some (.ref l2), some (.ref l3), some (.int l4), none, none, none]) (st' := [.ref l3, .int s0, .ref s1]) bf266_956 bf266_957 rfl rfl).trans ?_
  exact bkS bf266_957 bf266_960 rfl (by decide +kernel) (Nat.le_of_ble_eq_true rfl) rfl (bhd rfl)
theorem bk266_984 {w : am_Wd} {l0 : Nat} {l1 : Nat} {l2 : Nat} {l3 : Nat} {l4 : Int32} {s0 : Int32} {s1 : Nat} : am_run 266 984 [some (.ref l0), some (.ref l1), some (.ref l2), some (.ref l3), some (.int l4), none, none, none] [.int s0, .ref s1] w = (am_ri 0 w l0 (l4 + (nI 2))).bind fun v => am_run 266 990 [some (.ref l0), some (.ref l1), some (.ref l2), some (.ref l3), some (.int l4), none, none, none] (.int v :: [.int s0, .ref s1]) w := by
  refine (bu (ls'' := [some (.ref l0), some (.ref l1), some (.ref l2), some (.ref l3), some (.int l4), none, none, none]) (st' := [.ref l0, .int s0, .ref s1]) bf266_984 bf266_985 rfl rfl).trans ?_
  refine (bu (ls'' := [some (.ref l0), some (.ref l1), some (.ref l2), some (.ref l3), some (.int l4), none, none, none]) (st' := [.int l4, .ref l0, .int s0, .ref s1]) bf266_985 bf266_987 rfl rfl).trans ?_
  refine (bu (ls'' := [some (.ref l0), some (.ref l1), some (.ref l2), some (.ref l3), some (.int l4), none, none, none]) (st' := [.int (nI 2), .int l4, .ref l0, .int s0, .ref s1]) bf266_987 bf266_988 rfl rfl).trans ?_
  refine (bu (ls'' := [some (.ref l0), some (.ref l1), some (.ref l2), some (.ref l3), some (.int l4), none, none, none]) (st' := [.int (l4 + (nI 2)), .ref l0, .int s0, .ref s1]) bf266_988 bf266_989 rfl rfl).trans ?_
  exact bh bf266_989 bf266_990 rfl (fun _ _ => am_ge_rf w) rfl
theorem bk266_1036 {w : am_Wd} {l0 : Nat} {l1 : Nat} {l2 : Nat} {l3 : Nat} {l4 : Int32} {s0 : Int32} {s1 : Nat} : am_run 266 1036 [some (.ref l0), some (.ref l1), some (.ref l2), some (.ref l3), some (.int l4), none, none, none] [.int s0, .ref s1] w = (am_ri 0 w l0 (l4 + (nI 2))).bind fun v => am_run 266 1042 [some (.ref l0), some (.ref l1), some (.ref l2), some (.ref l3), some (.int l4), none, none, none] (.int v :: [.int s0, .ref s1]) w := by
  refine (bu (ls'' := [some (.ref l0), some (.ref l1), some (.ref l2), some (.ref l3), some (.int l4), none, none, none]) (st' := [.ref l0, .int s0, .ref s1]) bf266_1036 bf266_1037 rfl rfl).trans ?_
  refine (bu (ls'' := [some (.ref l0), some (.ref l1), some (.ref l2), some (.ref l3), some (.int l4), none, none, none]) (st' := [.int l4, .ref l0, .int s0, .ref s1]) bf266_1037 bf266_1039 rfl rfl).trans ?_
  refine (bu (ls'' := [some (.ref l0), some (.ref l1), some (.ref l2), some (.ref l3), some (.int l4), none, none, none]) (st' := [.int (nI 2), .int l4, .ref l0, .int s0, .ref s1]) bf266_1039 bf266_1040 rfl rfl).trans ?_
  refine (bu (ls'' := [some (.ref l0), some (.ref l1), some (.ref l2), some (.ref l3), some (.int l4), none, none, none]) (st' := [.int (l4 + (nI 2)), .ref l0, .int s0, .ref s1]) bf266_1040 bf266_1041 rfl rfl).trans ?_
  exact bh bf266_1041 bf266_1042 rfl (fun _ _ => am_ge_rf w) rfl
theorem bk266_1076 {w : am_Wd} {l0 : Nat} {l1 : Nat} {l2 : Nat} {l3 : Nat} {l4 : Int32} {s0 : Int32} {s1 : Nat} : am_run 266 1076 [some (.ref l0), some (.ref l1), some (.ref l2), some (.ref l3), some (.int l4), none, none, none] [.int s0, .ref s1] w = (am_ri 0 w l0 (l4 + (nI 2))).bind fun v => am_run 266 1082 [some (.ref l0), some (.ref l1), some (.ref l2), some (.ref l3), some (.int l4), none, none, none] (.int v :: [.int s0, .ref s1]) w := by
  refine (bu (ls'' := [some (.ref l0), some (.ref l1), some (.ref l2), some (.ref l3), some (.int l4), none, none, none]) (st' := [.ref l0, .int s0, .ref s1]) bf266_1076 bf266_1077 rfl rfl).trans ?_
  refine (bu (ls'' := [some (.ref l0), some (.ref l1), some (.ref l2), some (.ref l3), some (.int l4), none, none, none]) (st' := [.int l4, .ref l0, .int s0, .ref s1]) bf266_1077 bf266_1079 rfl rfl).trans ?_
  refine (bu (ls'' := [some (.ref l0), some (.ref l1), some (.ref l2), some (.ref l3), some (.int l4), none, none, none]) (st' := [.int (nI 2), .int l4, .ref l0, .int s0, .ref s1]) bf266_1079 bf266_1080 rfl rfl).trans ?_
  refine (bu (ls'' := [some (.ref l0), some (.ref l1), some (.ref l2), some (.ref l3), some (.int l4), none, none, none]) (st' := [.int (l4 + (nI 2)), .ref l0, .int s0, .ref s1]) bf266_1080 bf266_1081 rfl rfl).trans ?_
  exact bh bf266_1081 bf266_1082 rfl (fun _ _ => am_ge_rf w) rfl
theorem bk266_1116 {w : am_Wd} {l0 : Nat} {l1 : Nat} {l2 : Nat} {l3 : Nat} {l4 : Int32} {s0 : Int32} {s1 : Nat} : am_run 266 1116 [some (.ref l0), some (.ref l1), some (.ref l2), some (.ref l3), some (.int l4), none, none, none] [.int s0, .ref s1] w = (am_ri 0 w l0 (l4 + (nI 2))).bind fun v => am_run 266 1122 [some (.ref l0), some (.ref l1), some (.ref l2), some (.ref l3), some (.int l4), none, none, none] (.int v :: [.int s0, .ref s1]) w := by
  refine (bu (ls'' := [some (.ref l0), some (.ref l1), some (.ref l2), some (.ref l3), some (.int l4), none, none, none]) (st' := [.ref l0, .int s0, .ref s1]) bf266_1116 bf266_1117 rfl rfl).trans ?_
  refine (bu (ls'' := [some (.ref l0), some (.ref l1), some (.ref l2), some (.ref l3), some (.int l4), none, none, none]) (st' := [.int l4, .ref l0, .int s0, .ref s1]) bf266_1117 bf266_1119 rfl rfl).trans ?_
  refine (bu (ls'' := [some (.ref l0), some (.ref l1), some (.ref l2), some (.ref l3), some (.int l4), none, none, none]) (st' := [.int (nI 2), .int l4, .ref l0, .int s0, .ref s1]) bf266_1119 bf266_1120 rfl rfl).trans ?_
  refine (bu (ls'' := [some (.ref l0), some (.ref l1), some (.ref l2), some (.ref l3), some (.int l4), none, none, none]) (st' := [.int (l4 + (nI 2)), .ref l0, .int s0, .ref s1]) bf266_1120 bf266_1121 rfl rfl).trans ?_
  exact bh bf266_1121 bf266_1122 rfl (fun _ _ => am_ge_rf w) rfl
theorem bk266_1168 {w : am_Wd} {l0 : Nat} {l1 : Nat} {l2 : Nat} {l3 : Nat} {l4 : Int32} {s0 : Int32} {s1 : Nat} : am_run 266 1168 [some (.ref l0), some (.ref l1), some (.ref l2), some (.ref l3), some (.int l4), none, none, none] [.int s0, .ref s1] w = (am_ri 0 w l0 (l4 + (nI 2))).bind fun v => am_run 266 1174 [some (.ref l0), some (.ref l1), some (.ref l2), some (.ref l3), some (.int l4), none, none, none] (.int v :: [.int s0, .ref s1]) w := by
  refine (bu (ls'' := [some (.ref l0), some (.ref l1), some (.ref l2), some (.ref l3), some (.int l4), none, none, none]) (st' := [.ref l0, .int s0, .ref s1]) bf266_1168 bf266_1169 rfl rfl).trans ?_
  refine (bu (ls'' := [some (.ref l0), some (.ref l1), some (.ref l2), some (.ref l3), some (.int l4), none, none, none]) (st' := [.int l4, .ref l0, .int s0, .ref s1]) bf266_1169 bf266_1171 rfl rfl).trans ?_
  refine (bu (ls'' := [some (.ref l0), some (.ref l1), some (.ref l2), some (.ref l3), some (.int l4), none, none, none]) (st' := [.int (nI 2), .int l4, .ref l0, .int s0, .ref s1]) bf266_1171 bf266_1172 rfl rfl).trans ?_
  refine (bu (ls'' := [some (.ref l0), some (.ref l1), some (.ref l2), some (.ref l3), some (.int l4), none, none, none]) (st' := [.int (l4 + (nI 2)), .ref l0, .int s0, .ref s1]) bf266_1172 bf266_1173 rfl rfl).trans ?_
  exact bh bf266_1173 bf266_1174 rfl (fun _ _ => am_ge_rf w) rfl
theorem bk266_1208 {w : am_Wd} {l0 : Nat} {l1 : Nat} {l2 : Nat} {l3 : Nat} {l4 : Int32} {s0 : Int32} {s1 : Nat} : am_run 266 1208 [some (.ref l0), some (.ref l1), some (.ref l2), some (.ref l3), some (.int l4), none, none, none] [.int s0, .ref s1] w = (am_x 148 [.ref s1, .int s0, .ref l3] w).bind fun r => bct r fun v w' => am_run 266 1212 [some (.ref l0), some (.ref l1), some (.ref l2), some (.ref l3), some (.int l4), none, none, none] (v.toList ++ []) w' := by
  refine (bu (ls'' := [some (.ref l0), some (.ref l1), some (.ref l2), some (.ref l3), some (.int l4), none, none, none]) (st' := [.ref l3, .int s0, .ref s1]) bf266_1208 bf266_1209 rfl rfl).trans ?_
  exact bkS bf266_1209 bf266_1212 rfl (by decide +kernel) (Nat.le_of_ble_eq_true rfl) rfl (bhd rfl)
theorem bk266_1236 {w : am_Wd} {l0 : Nat} {l1 : Nat} {l2 : Nat} {l3 : Nat} {l4 : Int32} {s0 : Int32} {s1 : Nat} : am_run 266 1236 [some (.ref l0), some (.ref l1), some (.ref l2), some (.ref l3), some (.int l4), none, none, none] [.int s0, .ref s1] w = (am_ri 0 w l0 (l4 + (nI 2))).bind fun v => am_run 266 1242 [some (.ref l0), some (.ref l1), some (.ref l2), some (.ref l3), some (.int l4), none, none, none] (.int v :: [.int s0, .ref s1]) w := by
  refine (bu (ls'' := [some (.ref l0), some (.ref l1), some (.ref l2), some (.ref l3), some (.int l4), none, none, none]) (st' := [.ref l0, .int s0, .ref s1]) bf266_1236 bf266_1237 rfl rfl).trans ?_
  refine (bu (ls'' := [some (.ref l0), some (.ref l1), some (.ref l2), some (.ref l3), some (.int l4), none, none, none]) (st' := [.int l4, .ref l0, .int s0, .ref s1]) bf266_1237 bf266_1239 rfl rfl).trans ?_
  refine (bu (ls'' := [some (.ref l0), some (.ref l1), some (.ref l2), some (.ref l3), some (.int l4), none, none, none]) (st' := [.int (nI 2), .int l4, .ref l0, .int s0, .ref s1]) bf266_1239 bf266_1240 rfl rfl).trans ?_
  refine (bu (ls'' := [some (.ref l0), some (.ref l1), some (.ref l2), some (.ref l3), some (.int l4), none, none, none]) (st' := [.int (l4 + (nI 2)), .ref l0, .int s0, .ref s1]) bf266_1240 bf266_1241 rfl rfl).trans ?_
  exact bh bf266_1241 bf266_1242 rfl (fun _ _ => am_ge_rf w) rfl
theorem bk266_1276 {w : am_Wd} {l0 : Nat} {l1 : Nat} {l2 : Nat} {l3 : Nat} {l4 : Int32} {s0 : Int32} {s1 : Nat} : am_run 266 1276 [some (.ref l0), some (.ref l1), some (.ref l2), some (.ref l3), some (.int l4), none, none, none] [.int s0, .ref s1] w = (am_x 236 [.ref s1, .int s0, .ref l3] w).bind fun r => bct r fun v w' => am_run 266 1280 [some (.ref l0), some (.ref l1), some (.ref l2), some (.ref l3), some (.int l4), none, none, none] (v.toList ++ []) w' := by
  refine (bu (ls'' := [some (.ref l0), some (.ref l1), some (.ref l2), some (.ref l3), some (.int l4), none, none, none]) (st' := [.ref l3, .int s0, .ref s1]) bf266_1276 bf266_1277 rfl rfl).trans ?_
  exact bkS bf266_1277 bf266_1280 rfl (by decide +kernel) (Nat.le_of_ble_eq_true rfl) rfl (bhd rfl)
theorem bk266_1304 {w : am_Wd} {l0 : Nat} {l1 : Nat} {l2 : Nat} {l3 : Nat} {l4 : Int32} {s0 : Int32} {s1 : Nat} : am_run 266 1304 [some (.ref l0), some (.ref l1), some (.ref l2), some (.ref l3), some (.int l4), none, none, none] [.int s0, .ref s1] w = (am_ri 0 w l0 (l4 + (nI 2))).bind fun v => am_run 266 1310 [some (.ref l0), some (.ref l1), some (.ref l2), some (.ref l3), some (.int l4), none, none, none] (.int v :: [.int s0, .ref s1]) w := by
  refine (bu (ls'' := [some (.ref l0), some (.ref l1), some (.ref l2), some (.ref l3), some (.int l4), none, none, none]) (st' := [.ref l0, .int s0, .ref s1]) bf266_1304 bf266_1305 rfl rfl).trans ?_
  refine (bu (ls'' := [some (.ref l0), some (.ref l1), some (.ref l2), some (.ref l3), some (.int l4), none, none, none]) (st' := [.int l4, .ref l0, .int s0, .ref s1]) bf266_1305 bf266_1307 rfl rfl).trans ?_
  refine (bu (ls'' := [some (.ref l0), some (.ref l1), some (.ref l2), some (.ref l3), some (.int l4), none, none, none]) (st' := [.int (nI 2), .int l4, .ref l0, .int s0, .ref s1]) bf266_1307 bf266_1308 rfl rfl).trans ?_
  refine (bu (ls'' := [some (.ref l0), some (.ref l1), some (.ref l2), some (.ref l3), some (.int l4), none, none, none]) (st' := [.int (l4 + (nI 2)), .ref l0, .int s0, .ref s1]) bf266_1308 bf266_1309 rfl rfl).trans ?_
  exact bh bf266_1309 bf266_1310 rfl (fun _ _ => am_ge_rf w) rfl
theorem bk266_1344 {w : am_Wd} {l0 : Nat} {l1 : Nat} {l2 : Nat} {l3 : Nat} {l4 : Int32} {s0 : Int32} {s1 : Nat} : am_run 266 1344 [some (.ref l0), some (.ref l1), some (.ref l2), some (.ref l3), some (.int l4), none, none, none] [.int s0, .ref s1] w = (am_ri 0 w l0 (l4 + (nI 2))).bind fun v => am_run 266 1350 [some (.ref l0), some (.ref l1), some (.ref l2), some (.ref l3), some (.int l4), none, none, none] (.int v :: [.int s0, .ref s1]) w := by
  refine (bu (ls'' := [some (.ref l0), some (.ref l1), some (.ref l2), some (.ref l3), some (.int l4), none, none, none]) (st' := [.ref l0, .int s0, .ref s1]) bf266_1344 bf266_1345 rfl rfl).trans ?_
  refine (bu (ls'' := [some (.ref l0), some (.ref l1), some (.ref l2), some (.ref l3), some (.int l4), none, none, none]) (st' := [.int l4, .ref l0, .int s0, .ref s1]) bf266_1345 bf266_1347 rfl rfl).trans ?_
  refine (bu (ls'' := [some (.ref l0), some (.ref l1), some (.ref l2), some (.ref l3), some (.int l4), none, none, none]) (st' := [.int (nI 2), .int l4, .ref l0, .int s0, .ref s1]) bf266_1347 bf266_1348 rfl rfl).trans ?_
  refine (bu (ls'' := [some (.ref l0), some (.ref l1), some (.ref l2), some (.ref l3), some (.int l4), none, none, none]) (st' := [.int (l4 + (nI 2)), .ref l0, .int s0, .ref s1]) bf266_1348 bf266_1349 rfl rfl).trans ?_
  exact bh bf266_1349 bf266_1350 rfl (fun _ _ => am_ge_rf w) rfl
theorem bk266_1381 {w : am_Wd} {l0 : Nat} {l1 : Nat} {l2 : Nat} {l3 : Nat} {l4 : Int32} {s0 : Int32} : am_run 266 1381 [some (.ref l0), some (.ref l1), some (.ref l2), some (.ref l3), some (.int l4), none, none, none] [.int s0] w = (am_kf w l2 11).bind fun _ => (am_x 215 [.ref l2] w).bind fun r => bct r fun v w' => am_run 266 1386 [some (.ref l0), some (.ref l1), some (.ref l2), some (.ref l3), some (.int l4), none, none, none] (v.toList ++ []) w' := by
  refine (bu (ls'' := [some (.ref l0), some (.ref l1), some (.ref l2), some (.ref l3), some (.int l4), none, none, none]) (st' := []) bf266_1381 bf266_1382 rfl rfl).trans ?_
  refine (bu (ls'' := [some (.ref l0), some (.ref l1), some (.ref l2), some (.ref l3), some (.int l4), none, none, none]) (st' := [.ref l2]) bf266_1382 bf266_1383 rfl rfl).trans ?_
  exact bkV bf266_1383 bf266_1386 rfl (by decide +kernel) (Nat.le_of_ble_eq_true rfl) rfl (bhd rfl)
theorem bk266_1394 {w : am_Wd} {l0 : Nat} {l1 : Nat} {l2 : Nat} {l3 : Nat} {l4 : Int32} {s0 : Int64} : am_run 266 1394 [some (.ref l0), some (.ref l1), some (.ref l2), some (.ref l3), some (.int l4), none, none, none] [.long s0] w = (am_kf w l2 11).bind fun _ => (am_x 265 [.ref l2] w).bind fun r => bct r fun v w' => am_run 266 1398 [some (.ref l0), some (.ref l1), some (.ref l2), some (.ref l3), some (.int l4), none, none, none] (v.toList ++ [.long s0]) w' := by
  refine (bu (ls'' := [some (.ref l0), some (.ref l1), some (.ref l2), some (.ref l3), some (.int l4), none, none, none]) (st' := [.ref l2, .long s0]) bf266_1394 bf266_1395 rfl rfl).trans ?_
  exact bkV bf266_1395 bf266_1398 rfl (by decide +kernel) (Nat.le_of_ble_eq_true rfl) rfl (bhd rfl)
theorem bk266_185 {w : am_Wd} {l0 : Nat} {l1 : Nat} {l2 : Nat} {l3 : Nat} {l4 : Int32} {s0 : Int32} {s1 : Int32} {s2 : Nat} : am_run 266 185 [some (.ref l0), some (.ref l1), some (.ref l2), some (.ref l3), some (.int l4), none, none, none] [.int s0, .int s1, .ref s2] w = (am_ri 0 w l0 (l4 + (nI 3))).bind fun v => am_run 266 191 [some (.ref l0), some (.ref l1), some (.ref l2), some (.ref l3), some (.int l4), none, none, none] (.int v :: [.int s0, .int s1, .ref s2]) w := by
  refine (bu (ls'' := [some (.ref l0), some (.ref l1), some (.ref l2), some (.ref l3), some (.int l4), none, none, none]) (st' := [.ref l0, .int s0, .int s1, .ref s2]) bf266_185 bf266_186 rfl rfl).trans ?_
  refine (bu (ls'' := [some (.ref l0), some (.ref l1), some (.ref l2), some (.ref l3), some (.int l4), none, none, none]) (st' := [.int l4, .ref l0, .int s0, .int s1, .ref s2]) bf266_186 bf266_188 rfl rfl).trans ?_
  refine (bu (ls'' := [some (.ref l0), some (.ref l1), some (.ref l2), some (.ref l3), some (.int l4), none, none, none]) (st' := [.int (nI 3), .int l4, .ref l0, .int s0, .int s1, .ref s2]) bf266_188 bf266_189 rfl rfl).trans ?_
  refine (bu (ls'' := [some (.ref l0), some (.ref l1), some (.ref l2), some (.ref l3), some (.int l4), none, none, none]) (st' := [.int (l4 + (nI 3)), .ref l0, .int s0, .int s1, .ref s2]) bf266_189 bf266_190 rfl rfl).trans ?_
  exact bh bf266_190 bf266_191 rfl (fun _ _ => am_ge_rf w) rfl
theorem bk266_247 {w : am_Wd} {l0 : Nat} {l1 : Nat} {l2 : Nat} {l3 : Nat} {l4 : Int32} {s0 : Int32} : am_run 266 247 [some (.ref l0), some (.ref l1), some (.ref l2), some (.ref l3), some (.int l4), none, none, none] [.int s0] w = (am_ri 0 w l0 (l4 + (nI 1))).bind fun v => am_run 266 256 [some (.ref l0), some (.ref l1), some (.ref l2), some (.ref l3), some (.int l4), none, none, none] (.int v :: [.ref l2]) w := by
  refine (bu (ls'' := [some (.ref l0), some (.ref l1), some (.ref l2), some (.ref l3), some (.int l4), none, none, none]) (st' := []) bf266_247 bf266_249 rfl rfl).trans ?_
  refine (bu (ls'' := [some (.ref l0), some (.ref l1), some (.ref l2), some (.ref l3), some (.int l4), none, none, none]) (st' := [.ref l2]) bf266_249 bf266_250 rfl rfl).trans ?_
  refine (bu (ls'' := [some (.ref l0), some (.ref l1), some (.ref l2), some (.ref l3), some (.int l4), none, none, none]) (st' := [.ref l0, .ref l2]) bf266_250 bf266_251 rfl rfl).trans ?_
  refine (bu (ls'' := [some (.ref l0), some (.ref l1), some (.ref l2), some (.ref l3), some (.int l4), none, none, none]) (st' := [.int l4, .ref l0, .ref l2]) bf266_251 bf266_253 rfl rfl).trans ?_
  refine (bu (ls'' := [some (.ref l0), some (.ref l1), some (.ref l2), some (.ref l3), some (.int l4), none, none, none]) (st' := [.int (nI 1), .int l4, .ref l0, .ref l2]) bf266_253 bf266_254 rfl rfl).trans ?_
  refine (bu (ls'' := [some (.ref l0), some (.ref l1), some (.ref l2), some (.ref l3), some (.int l4), none, none, none]) (st' := [.int (l4 + (nI 1)), .ref l0, .ref l2]) bf266_254 bf266_255 rfl rfl).trans ?_
  exact bh bf266_255 bf266_256 rfl (fun _ _ => am_ge_rf w) rfl
theorem bk266_277 {w : am_Wd} {l0 : Nat} {l1 : Nat} {l2 : Nat} {l3 : Nat} {l4 : Int32} {s0 : Int32} {s1 : Int32} {s2 : Nat} : am_run 266 277 [some (.ref l0), some (.ref l1), some (.ref l2), some (.ref l3), some (.int l4), none, none, none] [.int s0, .int s1, .ref s2] w = if s0 = nI 0 then am_run 266 284 [some (.ref l0), some (.ref l1), some (.ref l2), some (.ref l3), some (.int l4), none, none, none] [.int s1, .ref s2] w else am_run 266 280 [some (.ref l0), some (.ref l1), some (.ref l2), some (.ref l3), some (.int l4), none, none, none] [.int s1, .ref s2] w := by
  exact bifc bf266_277 rfl bf266_284 bf266_280 rfl rfl rfl
theorem bk266_361 {w : am_Wd} {l0 : Nat} {l1 : Nat} {l2 : Nat} {l3 : Nat} {l4 : Int32} {s0 : Int32} {s1 : Int32} {s2 : Nat} : am_run 266 361 [some (.ref l0), some (.ref l1), some (.ref l2), some (.ref l3), some (.int l4), none, none, none] [.int s0, .int s1, .ref s2] w = (am_ri 0 w l0 (l4 + (nI 3))).bind fun v => am_run 266 367 [some (.ref l0), some (.ref l1), some (.ref l2), some (.ref l3), some (.int l4), none, none, none] (.int v :: [.int s0, .int s1, .ref s2]) w := by
  refine (bu (ls'' := [some (.ref l0), some (.ref l1), some (.ref l2), some (.ref l3), some (.int l4), none, none, none]) (st' := [.ref l0, .int s0, .int s1, .ref s2]) bf266_361 bf266_362 rfl rfl).trans ?_
  refine (bu (ls'' := [some (.ref l0), some (.ref l1), some (.ref l2), some (.ref l3), some (.int l4), none, none, none]) (st' := [.int l4, .ref l0, .int s0, .int s1, .ref s2]) bf266_362 bf266_364 rfl rfl).trans ?_
  refine (bu (ls'' := [some (.ref l0), some (.ref l1), some (.ref l2), some (.ref l3), some (.int l4), none, none, none]) (st' := [.int (nI 3), .int l4, .ref l0, .int s0, .int s1, .ref s2]) bf266_364 bf266_365 rfl rfl).trans ?_
  refine (bu (ls'' := [some (.ref l0), some (.ref l1), some (.ref l2), some (.ref l3), some (.int l4), none, none, none]) (st' := [.int (l4 + (nI 3)), .ref l0, .int s0, .int s1, .ref s2]) bf266_365 bf266_366 rfl rfl).trans ?_
  exact bh bf266_366 bf266_367 rfl (fun _ _ => am_ge_rf w) rfl
theorem bk266_441 {w : am_Wd} {l0 : Nat} {l1 : Nat} {l2 : Nat} {l3 : Nat} {l4 : Int32} {s0 : Int32} {s1 : Int32} {s2 : Nat} : am_run 266 441 [some (.ref l0), some (.ref l1), some (.ref l2), some (.ref l3), some (.int l4), none, none, none] [.int s0, .int s1, .ref s2] w = if s0 = nI 0 then am_run 266 448 [some (.ref l0), some (.ref l1), some (.ref l2), some (.ref l3), some (.int l4), none, none, none] [.int s1, .ref s2] w else am_run 266 444 [some (.ref l0), some (.ref l1), some (.ref l2), some (.ref l3), some (.int l4), none, none, none] [.int s1, .ref s2] w := by
  exact bifc bf266_441 rfl bf266_448 bf266_444 rfl rfl rfl
theorem bk266_497 {w : am_Wd} {l0 : Nat} {l1 : Nat} {l2 : Nat} {l3 : Nat} {l4 : Int32} {s0 : Int32} {s1 : Int32} {s2 : Nat} : am_run 266 497 [some (.ref l0), some (.ref l1), some (.ref l2), some (.ref l3), some (.int l4), none, none, none] [.int s0, .int s1, .ref s2] w = if s0 = nI 0 then am_run 266 504 [some (.ref l0), some (.ref l1), some (.ref l2), some (.ref l3), some (.int l4), none, none, none] [.int s1, .ref s2] w else am_run 266 500 [some (.ref l0), some (.ref l1), some (.ref l2), some (.ref l3), some (.int l4), none, none, none] [.int s1, .ref s2] w := by
  exact bifc bf266_497 rfl bf266_504 bf266_500 rfl rfl rfl
theorem bk266_581 {w : am_Wd} {l0 : Nat} {l1 : Nat} {l2 : Nat} {l3 : Nat} {l4 : Int32} {s0 : Int32} {s1 : Int32} {s2 : Nat} : am_run 266 581 [some (.ref l0), some (.ref l1), some (.ref l2), some (.ref l3), some (.int l4), none, none, none] [.int s0, .int s1, .ref s2] w = if s0 = nI 0 then am_run 266 588 [some (.ref l0), some (.ref l1), some (.ref l2), some (.ref l3), some (.int l4), none, none, none] [.int s1, .ref s2] w else am_run 266 584 [some (.ref l0), some (.ref l1), some (.ref l2), some (.ref l3), some (.int l4), none, none, none] [.int s1, .ref s2] w := by
  exact bifc bf266_581 rfl bf266_588 bf266_584 rfl rfl rfl
theorem bk266_637 {w : am_Wd} {l0 : Nat} {l1 : Nat} {l2 : Nat} {l3 : Nat} {l4 : Int32} {s0 : Int32} {s1 : Int32} {s2 : Nat} : am_run 266 637 [some (.ref l0), some (.ref l1), some (.ref l2), some (.ref l3), some (.int l4), none, none, none] [.int s0, .int s1, .ref s2] w = if s0 = nI 0 then am_run 266 644 [some (.ref l0), some (.ref l1), some (.ref l2), some (.ref l3), some (.int l4), none, none, none] [.int s1, .ref s2] w else am_run 266 640 [some (.ref l0), some (.ref l1), some (.ref l2), some (.ref l3), some (.int l4), none, none, none] [.int s1, .ref s2] w := by
  exact bifc bf266_637 rfl bf266_644 bf266_640 rfl rfl rfl
theorem bk266_693 {w : am_Wd} {l0 : Nat} {l1 : Nat} {l2 : Nat} {l3 : Nat} {l4 : Int32} {s0 : Int32} {s1 : Int32} {s2 : Nat} : am_run 266 693 [some (.ref l0), some (.ref l1), some (.ref l2), some (.ref l3), some (.int l4), none, none, none] [.int s0, .int s1, .ref s2] w = (am_x 187 [.ref s2, .int s1, .int s0, .ref l3] w).bind fun r => bct r fun v w' => am_run 266 697 [some (.ref l0), some (.ref l1), some (.ref l2), some (.ref l3), some (.int l4), none, none, none] (v.toList ++ []) w' := by
  refine (bu (ls'' := [some (.ref l0), some (.ref l1), some (.ref l2), some (.ref l3), some (.int l4), none, none, none]) (st' := [.ref l3, .int s0, .int s1, .ref s2]) bf266_693 bf266_694 rfl rfl).trans ?_
  exact bkS bf266_694 bf266_697 rfl (by decide +kernel) (Nat.le_of_ble_eq_true rfl) rfl (bhd rfl)
theorem bk266_731 {w : am_Wd} {l0 : Nat} {l1 : Nat} {l2 : Nat} {l3 : Nat} {l4 : Int32} {s0 : Int32} : am_run 266 731 [some (.ref l0), some (.ref l1), some (.ref l2), some (.ref l3), some (.int l4), none, none, none] [.int s0] w = (am_ri 0 w l0 (l4 + (nI 1))).bind fun v => am_run 266 740 [some (.ref l0), some (.ref l1), some (.ref l2), some (.ref l3), some (.int l4), none, none, none] (.int v :: [.ref l2]) w := by
  refine (bu (ls'' := [some (.ref l0), some (.ref l1), some (.ref l2), some (.ref l3), some (.int l4), none, none, none]) (st' := []) bf266_731 bf266_733 rfl rfl).trans ?_
  refine (bu (ls'' := [some (.ref l0), some (.ref l1), some (.ref l2), some (.ref l3), some (.int l4), none, none, none]) (st' := [.ref l2]) bf266_733 bf266_734 rfl rfl).trans ?_
  refine (bu (ls'' := [some (.ref l0), some (.ref l1), some (.ref l2), some (.ref l3), some (.int l4), none, none, none]) (st' := [.ref l0, .ref l2]) bf266_734 bf266_735 rfl rfl).trans ?_
  refine (bu (ls'' := [some (.ref l0), some (.ref l1), some (.ref l2), some (.ref l3), some (.int l4), none, none, none]) (st' := [.int l4, .ref l0, .ref l2]) bf266_735 bf266_737 rfl rfl).trans ?_
  refine (bu (ls'' := [some (.ref l0), some (.ref l1), some (.ref l2), some (.ref l3), some (.int l4), none, none, none]) (st' := [.int (nI 1), .int l4, .ref l0, .ref l2]) bf266_737 bf266_738 rfl rfl).trans ?_
  refine (bu (ls'' := [some (.ref l0), some (.ref l1), some (.ref l2), some (.ref l3), some (.int l4), none, none, none]) (st' := [.int (l4 + (nI 1)), .ref l0, .ref l2]) bf266_738 bf266_739 rfl rfl).trans ?_
  exact bh bf266_739 bf266_740 rfl (fun _ _ => am_ge_rf w) rfl
theorem bk266_761 {w : am_Wd} {l0 : Nat} {l1 : Nat} {l2 : Nat} {l3 : Nat} {l4 : Int32} {s0 : Int32} {s1 : Int32} {s2 : Nat} : am_run 266 761 [some (.ref l0), some (.ref l1), some (.ref l2), some (.ref l3), some (.int l4), none, none, none] [.int s0, .int s1, .ref s2] w = (am_x 218 [.ref s2, .int s1, .int s0, .ref l3] w).bind fun r => bct r fun v w' => am_run 266 765 [some (.ref l0), some (.ref l1), some (.ref l2), some (.ref l3), some (.int l4), none, none, none] (v.toList ++ []) w' := by
  refine (bu (ls'' := [some (.ref l0), some (.ref l1), some (.ref l2), some (.ref l3), some (.int l4), none, none, none]) (st' := [.ref l3, .int s0, .int s1, .ref s2]) bf266_761 bf266_762 rfl rfl).trans ?_
  exact bkS bf266_762 bf266_765 rfl (by decide +kernel) (Nat.le_of_ble_eq_true rfl) rfl (bhd rfl)
theorem bk266_799 {w : am_Wd} {l0 : Nat} {l1 : Nat} {l2 : Nat} {l3 : Nat} {l4 : Int32} {s0 : Int32} : am_run 266 799 [some (.ref l0), some (.ref l1), some (.ref l2), some (.ref l3), some (.int l4), none, none, none] [.int s0] w = (am_ri 0 w l0 (l4 + (nI 1))).bind fun v => am_run 266 808 [some (.ref l0), some (.ref l1), some (.ref l2), some (.ref l3), some (.int l4), none, none, none] (.int v :: [.ref l2]) w := by
  refine (bu (ls'' := [some (.ref l0), some (.ref l1), some (.ref l2), some (.ref l3), some (.int l4), none, none, none]) (st' := []) bf266_799 bf266_801 rfl rfl).trans ?_
  refine (bu (ls'' := [some (.ref l0), some (.ref l1), some (.ref l2), some (.ref l3), some (.int l4), none, none, none]) (st' := [.ref l2]) bf266_801 bf266_802 rfl rfl).trans ?_
  refine (bu (ls'' := [some (.ref l0), some (.ref l1), some (.ref l2), some (.ref l3), some (.int l4), none, none, none]) (st' := [.ref l0, .ref l2]) bf266_802 bf266_803 rfl rfl).trans ?_
  refine (bu (ls'' := [some (.ref l0), some (.ref l1), some (.ref l2), some (.ref l3), some (.int l4), none, none, none]) (st' := [.int l4, .ref l0, .ref l2]) bf266_803 bf266_805 rfl rfl).trans ?_
  refine (bu (ls'' := [some (.ref l0), some (.ref l1), some (.ref l2), some (.ref l3), some (.int l4), none, none, none]) (st' := [.int (nI 1), .int l4, .ref l0, .ref l2]) bf266_805 bf266_806 rfl rfl).trans ?_
  refine (bu (ls'' := [some (.ref l0), some (.ref l1), some (.ref l2), some (.ref l3), some (.int l4), none, none, none]) (st' := [.int (l4 + (nI 1)), .ref l0, .ref l2]) bf266_806 bf266_807 rfl rfl).trans ?_
  exact bh bf266_807 bf266_808 rfl (fun _ _ => am_ge_rf w) rfl
theorem bk266_825 {w : am_Wd} {l0 : Nat} {l1 : Nat} {l2 : Nat} {l3 : Nat} {l4 : Int32} {s0 : Int32} : am_run 266 825 [some (.ref l0), some (.ref l1), some (.ref l2), some (.ref l3), some (.int l4), none, none, none] [.int s0] w = am_run 266 1404 [some (.ref l0), some (.ref l1), some (.ref l2), some (.ref l3), some (.int l4), none, none, none] [] w := by
  refine (bu (ls'' := [some (.ref l0), some (.ref l1), some (.ref l2), some (.ref l3), some (.int l4), none, none, none]) (st' := []) bf266_825 bf266_826 rfl rfl).trans ?_
  refine (bu (ls'' := [some (.ref l0), some (.ref l1), some (.ref l2), some (.ref l3), some (.int l4), none, none, none]) (st' := []) bf266_826 bf266_1404 rfl rfl).trans ?_
  rfl
theorem bk266_842 {w : am_Wd} {l0 : Nat} {l1 : Nat} {l2 : Nat} {l3 : Nat} {l4 : Int32} {s0 : Int32} {s1 : Int32} {s2 : Nat} : am_run 266 842 [some (.ref l0), some (.ref l1), some (.ref l2), some (.ref l3), some (.int l4), none, none, none] [.int s0, .int s1, .ref s2] w = (am_ri 0 w l0 (l4 + (nI 3))).bind fun v => am_run 266 848 [some (.ref l0), some (.ref l1), some (.ref l2), some (.ref l3), some (.int l4), none, none, none] (.int v :: [.int s0, .int s1, .ref s2]) w := by
  refine (bu (ls'' := [some (.ref l0), some (.ref l1), some (.ref l2), some (.ref l3), some (.int l4), none, none, none]) (st' := [.ref l0, .int s0, .int s1, .ref s2]) bf266_842 bf266_843 rfl rfl).trans ?_
  refine (bu (ls'' := [some (.ref l0), some (.ref l1), some (.ref l2), some (.ref l3), some (.int l4), none, none, none]) (st' := [.int l4, .ref l0, .int s0, .int s1, .ref s2]) bf266_843 bf266_845 rfl rfl).trans ?_
  refine (bu (ls'' := [some (.ref l0), some (.ref l1), some (.ref l2), some (.ref l3), some (.int l4), none, none, none]) (st' := [.int (nI 3), .int l4, .ref l0, .int s0, .int s1, .ref s2]) bf266_845 bf266_846 rfl rfl).trans ?_
  refine (bu (ls'' := [some (.ref l0), some (.ref l1), some (.ref l2), some (.ref l3), some (.int l4), none, none, none]) (st' := [.int (l4 + (nI 3)), .ref l0, .int s0, .int s1, .ref s2]) bf266_846 bf266_847 rfl rfl).trans ?_
  exact bh bf266_847 bf266_848 rfl (fun _ _ => am_ge_rf w) rfl
theorem bk266_894 {w : am_Wd} {l0 : Nat} {l1 : Nat} {l2 : Nat} {l3 : Nat} {l4 : Int32} {s0 : Int32} {s1 : Int32} {s2 : Nat} : am_run 266 894 [some (.ref l0), some (.ref l1), some (.ref l2), some (.ref l3), some (.int l4), none, none, none] [.int s0, .int s1, .ref s2] w = (am_x 234 [.ref s2, .int s1, .int s0, .ref l3] w).bind fun r => bct r fun v w' => am_run 266 898 [some (.ref l0), some (.ref l1), some (.ref l2), some (.ref l3), some (.int l4), none, none, none] (v.toList ++ []) w' := by
  refine (bu (ls'' := [some (.ref l0), some (.ref l1), some (.ref l2), some (.ref l3), some (.int l4), none, none, none]) (st' := [.ref l3, .int s0, .int s1, .ref s2]) bf266_894 bf266_895 rfl rfl).trans ?_
  exact bkS bf266_895 bf266_898 rfl (by decide +kernel) (Nat.le_of_ble_eq_true rfl) rfl (bhd rfl)
theorem bk266_932 {w : am_Wd} {l0 : Nat} {l1 : Nat} {l2 : Nat} {l3 : Nat} {l4 : Int32} {s0 : Int32} : am_run 266 932 [some (.ref l0), some (.ref l1), some (.ref l2), some (.ref l3), some (.int l4), none, none, none] [.int s0] w = (am_ri 0 w l0 (l4 + (nI 1))).bind fun v => am_run 266 941 [some (.ref l0), some (.ref l1), some (.ref l2), some (.ref l3), some (.int l4), none, none, none] (.int v :: [.ref l2]) w := by
  refine (bu (ls'' := [some (.ref l0), some (.ref l1), some (.ref l2), some (.ref l3), some (.int l4), none, none, none]) (st' := []) bf266_932 bf266_934 rfl rfl).trans ?_
  refine (bu (ls'' := [some (.ref l0), some (.ref l1), some (.ref l2), some (.ref l3), some (.int l4), none, none, none]) (st' := [.ref l2]) bf266_934 bf266_935 rfl rfl).trans ?_
  refine (bu (ls'' := [some (.ref l0), some (.ref l1), some (.ref l2), some (.ref l3), some (.int l4), none, none, none]) (st' := [.ref l0, .ref l2]) bf266_935 bf266_936 rfl rfl).trans ?_
  refine (bu (ls'' := [some (.ref l0), some (.ref l1), some (.ref l2), some (.ref l3), some (.int l4), none, none, none]) (st' := [.int l4, .ref l0, .ref l2]) bf266_936 bf266_938 rfl rfl).trans ?_
  refine (bu (ls'' := [some (.ref l0), some (.ref l1), some (.ref l2), some (.ref l3), some (.int l4), none, none, none]) (st' := [.int (nI 1), .int l4, .ref l0, .ref l2]) bf266_938 bf266_939 rfl rfl).trans ?_
  refine (bu (ls'' := [some (.ref l0), some (.ref l1), some (.ref l2), some (.ref l3), some (.int l4), none, none, none]) (st' := [.int (l4 + (nI 1)), .ref l0, .ref l2]) bf266_939 bf266_940 rfl rfl).trans ?_
  exact bh bf266_940 bf266_941 rfl (fun _ _ => am_ge_rf w) rfl
theorem bk266_960 {w : am_Wd} {l0 : Nat} {l1 : Nat} {l2 : Nat} {l3 : Nat} {l4 : Int32} {s0 : Int32} : am_run 266 960 [some (.ref l0), some (.ref l1), some (.ref l2), some (.ref l3), some (.int l4), none, none, none] [.int s0] w = (am_ri 0 w l0 (l4 + (nI 1))).bind fun v => am_run 266 969 [some (.ref l0), some (.ref l1), some (.ref l2), some (.ref l3), some (.int l4), none, none, none] (.int v :: [.ref l2]) w := by
  refine (bu (ls'' := [some (.ref l0), some (.ref l1), some (.ref l2), some (.ref l3), some (.int l4), none, none, none]) (st' := []) bf266_960 bf266_962 rfl rfl).trans ?_
  refine (bu (ls'' := [some (.ref l0), some (.ref l1), some (.ref l2), some (.ref l3), some (.int l4), none, none, none]) (st' := [.ref l2]) bf266_962 bf266_963 rfl rfl).trans ?_
  refine (bu (ls'' := [some (.ref l0), some (.ref l1), some (.ref l2), some (.ref l3), some (.int l4), none, none, none]) (st' := [.ref l0, .ref l2]) bf266_963 bf266_964 rfl rfl).trans ?_
  refine (bu (ls'' := [some (.ref l0), some (.ref l1), some (.ref l2), some (.ref l3), some (.int l4), none, none, none]) (st' := [.int l4, .ref l0, .ref l2]) bf266_964 bf266_966 rfl rfl).trans ?_
  refine (bu (ls'' := [some (.ref l0), some (.ref l1), some (.ref l2), some (.ref l3), some (.int l4), none, none, none]) (st' := [.int (nI 1), .int l4, .ref l0, .ref l2]) bf266_966 bf266_967 rfl rfl).trans ?_
  refine (bu (ls'' := [some (.ref l0), some (.ref l1), some (.ref l2), some (.ref l3), some (.int l4), none, none, none]) (st' := [.int (l4 + (nI 1)), .ref l0, .ref l2]) bf266_967 bf266_968 rfl rfl).trans ?_
  exact bh bf266_968 bf266_969 rfl (fun _ _ => am_ge_rf w) rfl
theorem bk266_990 {w : am_Wd} {l0 : Nat} {l1 : Nat} {l2 : Nat} {l3 : Nat} {l4 : Int32} {s0 : Int32} {s1 : Int32} {s2 : Nat} : am_run 266 990 [some (.ref l0), some (.ref l1), some (.ref l2), some (.ref l3), some (.int l4), none, none, none] [.int s0, .int s1, .ref s2] w = (am_ri 0 w l0 (l4 + (nI 3))).bind fun v => am_run 266 996 [some (.ref l0), some (.ref l1), some (.ref l2), some (.ref l3), some (.int l4), none, none, none] (.int v :: [.int s0, .int s1, .ref s2]) w := by
  refine (bu (ls'' := [some (.ref l0), some (.ref l1), some (.ref l2), some (.ref l3), some (.int l4), none, none, none]) (st' := [.ref l0, .int s0, .int s1, .ref s2]) bf266_990 bf266_991 rfl rfl).trans ?_
  refine (bu (ls'' := [some (.ref l0), some (.ref l1), some (.ref l2), some (.ref l3), some (.int l4), none, none, none]) (st' := [.int l4, .ref l0, .int s0, .int s1, .ref s2]) bf266_991 bf266_993 rfl rfl).trans ?_
  refine (bu (ls'' := [some (.ref l0), some (.ref l1), some (.ref l2), some (.ref l3), some (.int l4), none, none, none]) (st' := [.int (nI 3), .int l4, .ref l0, .int s0, .int s1, .ref s2]) bf266_993 bf266_994 rfl rfl).trans ?_
  refine (bu (ls'' := [some (.ref l0), some (.ref l1), some (.ref l2), some (.ref l3), some (.int l4), none, none, none]) (st' := [.int (l4 + (nI 3)), .ref l0, .int s0, .int s1, .ref s2]) bf266_994 bf266_995 rfl rfl).trans ?_
  exact bh bf266_995 bf266_996 rfl (fun _ _ => am_ge_rf w) rfl
theorem bk266_1042 {w : am_Wd} {l0 : Nat} {l1 : Nat} {l2 : Nat} {l3 : Nat} {l4 : Int32} {s0 : Int32} {s1 : Int32} {s2 : Nat} : am_run 266 1042 [some (.ref l0), some (.ref l1), some (.ref l2), some (.ref l3), some (.int l4), none, none, none] [.int s0, .int s1, .ref s2] w = (am_x 192 [.ref s2, .int s1, .int s0, .ref l3] w).bind fun r => bct r fun v w' => am_run 266 1046 [some (.ref l0), some (.ref l1), some (.ref l2), some (.ref l3), some (.int l4), none, none, none] (v.toList ++ []) w' := by
  refine (bu (ls'' := [some (.ref l0), some (.ref l1), some (.ref l2), some (.ref l3), some (.int l4), none, none, none]) (st' := [.ref l3, .int s0, .int s1, .ref s2]) bf266_1042 bf266_1043 rfl rfl).trans ?_
  exact bkS bf266_1043 bf266_1046 rfl (by decide +kernel) (Nat.le_of_ble_eq_true rfl) rfl (bhd rfl)
theorem bk266_1082 {w : am_Wd} {l0 : Nat} {l1 : Nat} {l2 : Nat} {l3 : Nat} {l4 : Int32} {s0 : Int32} {s1 : Int32} {s2 : Nat} : am_run 266 1082 [some (.ref l0), some (.ref l1), some (.ref l2), some (.ref l3), some (.int l4), none, none, none] [.int s0, .int s1, .ref s2] w = (am_x 193 [.ref s2, .int s1, .int s0, .ref l3] w).bind fun r => bct r fun v w' => am_run 266 1086 [some (.ref l0), some (.ref l1), some (.ref l2), some (.ref l3), some (.int l4), none, none, none] (v.toList ++ []) w' := by
  refine (bu (ls'' := [some (.ref l0), some (.ref l1), some (.ref l2), some (.ref l3), some (.int l4), none, none, none]) (st' := [.ref l3, .int s0, .int s1, .ref s2]) bf266_1082 bf266_1083 rfl rfl).trans ?_
  exact bkS bf266_1083 bf266_1086 rfl (by decide +kernel) (Nat.le_of_ble_eq_true rfl) rfl (bhd rfl)
theorem bk266_1122 {w : am_Wd} {l0 : Nat} {l1 : Nat} {l2 : Nat} {l3 : Nat} {l4 : Int32} {s0 : Int32} {s1 : Int32} {s2 : Nat} : am_run 266 1122 [some (.ref l0), some (.ref l1), some (.ref l2), some (.ref l3), some (.int l4), none, none, none] [.int s0, .int s1, .ref s2] w = (am_ri 0 w l0 (l4 + (nI 3))).bind fun v => am_run 266 1128 [some (.ref l0), some (.ref l1), some (.ref l2), some (.ref l3), some (.int l4), none, none, none] (.int v :: [.int s0, .int s1, .ref s2]) w := by
  refine (bu (ls'' := [some (.ref l0), some (.ref l1), some (.ref l2), some (.ref l3), some (.int l4), none, none, none]) (st' := [.ref l0, .int s0, .int s1, .ref s2]) bf266_1122 bf266_1123 rfl rfl).trans ?_
  refine (bu (ls'' := [some (.ref l0), some (.ref l1), some (.ref l2), some (.ref l3), some (.int l4), none, none, none]) (st' := [.int l4, .ref l0, .int s0, .int s1, .ref s2]) bf266_1123 bf266_1125 rfl rfl).trans ?_
  refine (bu (ls'' := [some (.ref l0), some (.ref l1), some (.ref l2), some (.ref l3), some (.int l4), none, none, none]) (st' := [.int (nI 3), .int l4, .ref l0, .int s0, .int s1, .ref s2]) bf266_1125 bf266_1126 rfl rfl).trans ?_
  refine (bu (ls'' := [some (.ref l0), some (.ref l1), some (.ref l2), some (.ref l3), some (.int l4), none, none, none]) (st' := [.int (l4 + (nI 3)), .ref l0, .int s0, .int s1, .ref s2]) bf266_1126 bf266_1127 rfl rfl).trans ?_
  exact bh bf266_1127 bf266_1128 rfl (fun _ _ => am_ge_rf w) rfl
theorem bk266_1174 {w : am_Wd} {l0 : Nat} {l1 : Nat} {l2 : Nat} {l3 : Nat} {l4 : Int32} {s0 : Int32} {s1 : Int32} {s2 : Nat} : am_run 266 1174 [some (.ref l0), some (.ref l1), some (.ref l2), some (.ref l3), some (.int l4), none, none, none] [.int s0, .int s1, .ref s2] w = (am_x 249 [.ref s2, .int s1, .int s0, .ref l3] w).bind fun r => bct r fun v w' => am_run 266 1178 [some (.ref l0), some (.ref l1), some (.ref l2), some (.ref l3), some (.int l4), none, none, none] (v.toList ++ []) w' := by
  refine (bu (ls'' := [some (.ref l0), some (.ref l1), some (.ref l2), some (.ref l3), some (.int l4), none, none, none]) (st' := [.ref l3, .int s0, .int s1, .ref s2]) bf266_1174 bf266_1175 rfl rfl).trans ?_
  exact bkS bf266_1175 bf266_1178 rfl (by decide +kernel) (Nat.le_of_ble_eq_true rfl) rfl (bhd rfl)
theorem bk266_1212 {w : am_Wd} {l0 : Nat} {l1 : Nat} {l2 : Nat} {l3 : Nat} {l4 : Int32} {s0 : Int32} : am_run 266 1212 [some (.ref l0), some (.ref l1), some (.ref l2), some (.ref l3), some (.int l4), none, none, none] [.int s0] w = (am_ri 0 w l0 (l4 + (nI 1))).bind fun v => am_run 266 1221 [some (.ref l0), some (.ref l1), some (.ref l2), some (.ref l3), some (.int l4), none, none, none] (.int v :: [.ref l2]) w := by
  refine (bu (ls'' := [some (.ref l0), some (.ref l1), some (.ref l2), some (.ref l3), some (.int l4), none, none, none]) (st' := []) bf266_1212 bf266_1214 rfl rfl).trans ?_
  refine (bu (ls'' := [some (.ref l0), some (.ref l1), some (.ref l2), some (.ref l3), some (.int l4), none, none, none]) (st' := [.ref l2]) bf266_1214 bf266_1215 rfl rfl).trans ?_
  refine (bu (ls'' := [some (.ref l0), some (.ref l1), some (.ref l2), some (.ref l3), some (.int l4), none, none, none]) (st' := [.ref l0, .ref l2]) bf266_1215 bf266_1216 rfl rfl).trans ?_
  refine (bu (ls'' := [some (.ref l0), some (.ref l1), some (.ref l2), some (.ref l3), some (.int l4), none, none, none]) (st' := [.int l4, .ref l0, .ref l2]) bf266_1216 bf266_1218 rfl rfl).trans ?_
  refine (bu (ls'' := [some (.ref l0), some (.ref l1), some (.ref l2), some (.ref l3), some (.int l4), none, none, none]) (st' := [.int (nI 1), .int l4, .ref l0, .ref l2]) bf266_1218 bf266_1219 rfl rfl).trans ?_
  refine (bu (ls'' := [some (.ref l0), some (.ref l1), some (.ref l2), some (.ref l3), some (.int l4), none, none, none]) (st' := [.int (l4 + (nI 1)), .ref l0, .ref l2]) bf266_1219 bf266_1220 rfl rfl).trans ?_
  exact bh bf266_1220 bf266_1221 rfl (fun _ _ => am_ge_rf w) rfl
theorem bk266_1242 {w : am_Wd} {l0 : Nat} {l1 : Nat} {l2 : Nat} {l3 : Nat} {l4 : Int32} {s0 : Int32} {s1 : Int32} {s2 : Nat} : am_run 266 1242 [some (.ref l0), some (.ref l1), some (.ref l2), some (.ref l3), some (.int l4), none, none, none] [.int s0, .int s1, .ref s2] w = (am_x 235 [.ref s2, .int s1, .int s0, .ref l3] w).bind fun r => bct r fun v w' => am_run 266 1246 [some (.ref l0), some (.ref l1), some (.ref l2), some (.ref l3), some (.int l4), none, none, none] (v.toList ++ []) w' := by
  refine (bu (ls'' := [some (.ref l0), some (.ref l1), some (.ref l2), some (.ref l3), some (.int l4), none, none, none]) (st' := [.ref l3, .int s0, .int s1, .ref s2]) bf266_1242 bf266_1243 rfl rfl).trans ?_
  exact bkS bf266_1243 bf266_1246 rfl (by decide +kernel) (Nat.le_of_ble_eq_true rfl) rfl (bhd rfl)
theorem bk266_1280 {w : am_Wd} {l0 : Nat} {l1 : Nat} {l2 : Nat} {l3 : Nat} {l4 : Int32} {s0 : Int32} : am_run 266 1280 [some (.ref l0), some (.ref l1), some (.ref l2), some (.ref l3), some (.int l4), none, none, none] [.int s0] w = (am_ri 0 w l0 (l4 + (nI 1))).bind fun v => am_run 266 1289 [some (.ref l0), some (.ref l1), some (.ref l2), some (.ref l3), some (.int l4), none, none, none] (.int v :: [.ref l2]) w := by
  refine (bu (ls'' := [some (.ref l0), some (.ref l1), some (.ref l2), some (.ref l3), some (.int l4), none, none, none]) (st' := []) bf266_1280 bf266_1282 rfl rfl).trans ?_
  refine (bu (ls'' := [some (.ref l0), some (.ref l1), some (.ref l2), some (.ref l3), some (.int l4), none, none, none]) (st' := [.ref l2]) bf266_1282 bf266_1283 rfl rfl).trans ?_
  refine (bu (ls'' := [some (.ref l0), some (.ref l1), some (.ref l2), some (.ref l3), some (.int l4), none, none, none]) (st' := [.ref l0, .ref l2]) bf266_1283 bf266_1284 rfl rfl).trans ?_
  refine (bu (ls'' := [some (.ref l0), some (.ref l1), some (.ref l2), some (.ref l3), some (.int l4), none, none, none]) (st' := [.int l4, .ref l0, .ref l2]) bf266_1284 bf266_1286 rfl rfl).trans ?_
  refine (bu (ls'' := [some (.ref l0), some (.ref l1), some (.ref l2), some (.ref l3), some (.int l4), none, none, none]) (st' := [.int (nI 1), .int l4, .ref l0, .ref l2]) bf266_1286 bf266_1287 rfl rfl).trans ?_
  refine (bu (ls'' := [some (.ref l0), some (.ref l1), some (.ref l2), some (.ref l3), some (.int l4), none, none, none]) (st' := [.int (l4 + (nI 1)), .ref l0, .ref l2]) bf266_1287 bf266_1288 rfl rfl).trans ?_
  exact bh bf266_1288 bf266_1289 rfl (fun _ _ => am_ge_rf w) rfl
theorem bk266_1310 {w : am_Wd} {l0 : Nat} {l1 : Nat} {l2 : Nat} {l3 : Nat} {l4 : Int32} {s0 : Int32} {s1 : Int32} {s2 : Nat} : am_run 266 1310 [some (.ref l0), some (.ref l1), some (.ref l2), some (.ref l3), some (.int l4), none, none, none] [.int s0, .int s1, .ref s2] w = (am_x 220 [.ref s2, .int s1, .int s0, .ref l3] w).bind fun r => bct r fun v w' => am_run 266 1314 [some (.ref l0), some (.ref l1), some (.ref l2), some (.ref l3), some (.int l4), none, none, none] (v.toList ++ []) w' := by
  refine (bu (ls'' := [some (.ref l0), some (.ref l1), some (.ref l2), some (.ref l3), some (.int l4), none, none, none]) (st' := [.ref l3, .int s0, .int s1, .ref s2]) bf266_1310 bf266_1311 rfl rfl).trans ?_
  exact bkS bf266_1311 bf266_1314 rfl (by decide +kernel) (Nat.le_of_ble_eq_true rfl) rfl (bhd rfl)
theorem bk266_1350 {w : am_Wd} {l0 : Nat} {l1 : Nat} {l2 : Nat} {l3 : Nat} {l4 : Int32} {s0 : Int32} {s1 : Int32} {s2 : Nat} : am_run 266 1350 [some (.ref l0), some (.ref l1), some (.ref l2), some (.ref l3), some (.int l4), none, none, none] [.int s0, .int s1, .ref s2] w = (am_x 237 [.ref s2, .int s1, .int s0, .ref l3] w).bind fun r => bct r fun v w' => am_run 266 1354 [some (.ref l0), some (.ref l1), some (.ref l2), some (.ref l3), some (.int l4), none, none, none] (v.toList ++ []) w' := by
  refine (bu (ls'' := [some (.ref l0), some (.ref l1), some (.ref l2), some (.ref l3), some (.int l4), none, none, none]) (st' := [.ref l3, .int s0, .int s1, .ref s2]) bf266_1350 bf266_1351 rfl rfl).trans ?_
  exact bkS bf266_1351 bf266_1354 rfl (by decide +kernel) (Nat.le_of_ble_eq_true rfl) rfl (bhd rfl)
theorem bk266_1386 {w : am_Wd} {l0 : Nat} {l1 : Nat} {l2 : Nat} {l3 : Nat} {l4 : Int32} {s0 : Int32} : am_run 266 1386 [some (.ref l0), some (.ref l1), some (.ref l2), some (.ref l3), some (.int l4), none, none, none] [.int s0] w = am_run 266 1404 [some (.ref l0), some (.ref l1), some (.ref l2), some (.ref l3), some (.int l4), none, none, none] [] w := by
  refine (bu (ls'' := [some (.ref l0), some (.ref l1), some (.ref l2), some (.ref l3), some (.int l4), none, none, none]) (st' := []) bf266_1386 bf266_1387 rfl rfl).trans ?_
  refine (bu (ls'' := [some (.ref l0), some (.ref l1), some (.ref l2), some (.ref l3), some (.int l4), none, none, none]) (st' := []) bf266_1387 bf266_1404 rfl rfl).trans ?_
  rfl
theorem bk266_1398 {w : am_Wd} {l0 : Nat} {l1 : Nat} {l2 : Nat} {l3 : Nat} {l4 : Int32} {s0 : Int64} {s1 : Int64} : am_run 266 1398 [some (.ref l0), some (.ref l1), some (.ref l2), some (.ref l3), some (.int l4), none, none, none] [.long s0, .long s1] w = if (lg_cmp s1 s0) = nI 0 then am_run 266 1404 [some (.ref l0), some (.ref l1), some (.ref l2), some (.ref l3), some (.int l4), none, none, none] [] w else am_run 266 1402 [none, none, none, none, none, none, none, none] [] w := by
  refine (bu (ls'' := [some (.ref l0), some (.ref l1), some (.ref l2), some (.ref l3), some (.int l4), none, none, none]) (st' := [.int (lg_cmp s1 s0)]) bf266_1398 bf266_1399 rfl rfl).trans ?_
  exact bifc bf266_1399 rfl bf266_1404 bf266_1402 rfl rfl rfl
theorem bk266_191 {w : am_Wd} {l0 : Nat} {l1 : Nat} {l2 : Nat} {l3 : Nat} {l4 : Int32} {s0 : Int32} {s1 : Int32} {s2 : Int32} {s3 : Nat} : am_run 266 191 [some (.ref l0), some (.ref l1), some (.ref l2), some (.ref l3), some (.int l4), none, none, none] [.int s0, .int s1, .int s2, .ref s3] w = (am_ri 0 w l0 (l4 + (nI 4))).bind fun v => am_run 266 197 [some (.ref l0), some (.ref l1), some (.ref l2), some (.ref l3), some (.int l4), none, none, none] (.int v :: [.int s0, .int s1, .int s2, .ref s3]) w := by
  refine (bu (ls'' := [some (.ref l0), some (.ref l1), some (.ref l2), some (.ref l3), some (.int l4), none, none, none]) (st' := [.ref l0, .int s0, .int s1, .int s2, .ref s3]) bf266_191 bf266_192 rfl rfl).trans ?_
  refine (bu (ls'' := [some (.ref l0), some (.ref l1), some (.ref l2), some (.ref l3), some (.int l4), none, none, none]) (st' := [.int l4, .ref l0, .int s0, .int s1, .int s2, .ref s3]) bf266_192 bf266_194 rfl rfl).trans ?_
  refine (bu (ls'' := [some (.ref l0), some (.ref l1), some (.ref l2), some (.ref l3), some (.int l4), none, none, none]) (st' := [.int (nI 4), .int l4, .ref l0, .int s0, .int s1, .int s2, .ref s3]) bf266_194 bf266_195 rfl rfl).trans ?_
  refine (bu (ls'' := [some (.ref l0), some (.ref l1), some (.ref l2), some (.ref l3), some (.int l4), none, none, none]) (st' := [.int (l4 + (nI 4)), .ref l0, .int s0, .int s1, .int s2, .ref s3]) bf266_195 bf266_196 rfl rfl).trans ?_
  exact bh bf266_196 bf266_197 rfl (fun _ _ => am_ge_rf w) rfl
theorem bk266_256 {w : am_Wd} {l0 : Nat} {l1 : Nat} {l2 : Nat} {l3 : Nat} {l4 : Int32} {s0 : Int32} {s1 : Nat} : am_run 266 256 [some (.ref l0), some (.ref l1), some (.ref l2), some (.ref l3), some (.int l4), none, none, none] [.int s0, .ref s1] w = (am_kf w s1 11).bind fun _ => (am_x 206 [.ref s1, .int s0] w).bind fun r => bct r fun v w' => am_run 266 259 [some (.ref l0), some (.ref l1), some (.ref l2), some (.ref l3), some (.int l4), none, none, none] (v.toList ++ []) w' := by
  exact bkV bf266_256 bf266_259 rfl (by decide +kernel) (Nat.le_of_ble_eq_true rfl) rfl (bhd rfl)
theorem bk266_284 {w : am_Wd} {l0 : Nat} {l1 : Nat} {l2 : Nat} {l3 : Nat} {l4 : Int32} {s0 : Int32} {s1 : Nat} : am_run 266 284 [some (.ref l0), some (.ref l1), some (.ref l2), some (.ref l3), some (.int l4), none, none, none] [.int s0, .ref s1] w = am_run 266 285 [some (.ref l0), some (.ref l1), some (.ref l2), some (.ref l3), some (.int l4), none, none, none] [.int (nI 0), .int s0, .ref s1] w := by
  refine (bu (ls'' := [some (.ref l0), some (.ref l1), some (.ref l2), some (.ref l3), some (.int l4), none, none, none]) (st' := [.int (nI 0), .int s0, .ref s1]) bf266_284 bf266_285 rfl rfl).trans ?_
  rfl
theorem bk266_280 {w : am_Wd} {l0 : Nat} {l1 : Nat} {l2 : Nat} {l3 : Nat} {l4 : Int32} {s0 : Int32} {s1 : Nat} : am_run 266 280 [some (.ref l0), some (.ref l1), some (.ref l2), some (.ref l3), some (.int l4), none, none, none] [.int s0, .ref s1] w = am_run 266 285 [some (.ref l0), some (.ref l1), some (.ref l2), some (.ref l3), some (.int l4), none, none, none] [.int (nI 1), .int s0, .ref s1] w := by
  refine (bu (ls'' := [some (.ref l0), some (.ref l1), some (.ref l2), some (.ref l3), some (.int l4), none, none, none]) (st' := [.int (nI 1), .int s0, .ref s1]) bf266_280 bf266_281 rfl rfl).trans ?_
  refine (bu (ls'' := [some (.ref l0), some (.ref l1), some (.ref l2), some (.ref l3), some (.int l4), none, none, none]) (st' := [.int (nI 1), .int s0, .ref s1]) bf266_281 bf266_285 rfl rfl).trans ?_
  rfl
theorem bk266_367 {w : am_Wd} {l0 : Nat} {l1 : Nat} {l2 : Nat} {l3 : Nat} {l4 : Int32} {s0 : Int32} {s1 : Int32} {s2 : Int32} {s3 : Nat} : am_run 266 367 [some (.ref l0), some (.ref l1), some (.ref l2), some (.ref l3), some (.int l4), none, none, none] [.int s0, .int s1, .int s2, .ref s3] w = (am_ri 0 w l0 (l4 + (nI 4))).bind fun v => am_run 266 373 [some (.ref l0), some (.ref l1), some (.ref l2), some (.ref l3), some (.int l4), none, none, none] (.int v :: [.int s0, .int s1, .int s2, .ref s3]) w := by
  refine (bu (ls'' := [some (.ref l0), some (.ref l1), some (.ref l2), some (.ref l3), some (.int l4), none, none, none]) (st' := [.ref l0, .int s0, .int s1, .int s2, .ref s3]) bf266_367 bf266_368 rfl rfl).trans ?_
  refine (bu (ls'' := [some (.ref l0), some (.ref l1), some (.ref l2), some (.ref l3), some (.int l4), none, none, none]) (st' := [.int l4, .ref l0, .int s0, .int s1, .int s2, .ref s3]) bf266_368 bf266_370 rfl rfl).trans ?_
  refine (bu (ls'' := [some (.ref l0), some (.ref l1), some (.ref l2), some (.ref l3), some (.int l4), none, none, none]) (st' := [.int (nI 4), .int l4, .ref l0, .int s0, .int s1, .int s2, .ref s3]) bf266_370 bf266_371 rfl rfl).trans ?_
  refine (bu (ls'' := [some (.ref l0), some (.ref l1), some (.ref l2), some (.ref l3), some (.int l4), none, none, none]) (st' := [.int (l4 + (nI 4)), .ref l0, .int s0, .int s1, .int s2, .ref s3]) bf266_371 bf266_372 rfl rfl).trans ?_
  exact bh bf266_372 bf266_373 rfl (fun _ _ => am_ge_rf w) rfl
theorem bk266_448 {w : am_Wd} {l0 : Nat} {l1 : Nat} {l2 : Nat} {l3 : Nat} {l4 : Int32} {s0 : Int32} {s1 : Nat} : am_run 266 448 [some (.ref l0), some (.ref l1), some (.ref l2), some (.ref l3), some (.int l4), none, none, none] [.int s0, .ref s1] w = am_run 266 449 [some (.ref l0), some (.ref l1), some (.ref l2), some (.ref l3), some (.int l4), none, none, none] [.int (nI 0), .int s0, .ref s1] w := by
  refine (bu (ls'' := [some (.ref l0), some (.ref l1), some (.ref l2), some (.ref l3), some (.int l4), none, none, none]) (st' := [.int (nI 0), .int s0, .ref s1]) bf266_448 bf266_449 rfl rfl).trans ?_
  rfl
theorem bk266_444 {w : am_Wd} {l0 : Nat} {l1 : Nat} {l2 : Nat} {l3 : Nat} {l4 : Int32} {s0 : Int32} {s1 : Nat} : am_run 266 444 [some (.ref l0), some (.ref l1), some (.ref l2), some (.ref l3), some (.int l4), none, none, none] [.int s0, .ref s1] w = am_run 266 449 [some (.ref l0), some (.ref l1), some (.ref l2), some (.ref l3), some (.int l4), none, none, none] [.int (nI 1), .int s0, .ref s1] w := by
  refine (bu (ls'' := [some (.ref l0), some (.ref l1), some (.ref l2), some (.ref l3), some (.int l4), none, none, none]) (st' := [.int (nI 1), .int s0, .ref s1]) bf266_444 bf266_445 rfl rfl).trans ?_
  refine (bu (ls'' := [some (.ref l0), some (.ref l1), some (.ref l2), some (.ref l3), some (.int l4), none, none, none]) (st' := [.int (nI 1), .int s0, .ref s1]) bf266_445 bf266_449 rfl rfl).trans ?_
  rfl
theorem bk266_504 {w : am_Wd} {l0 : Nat} {l1 : Nat} {l2 : Nat} {l3 : Nat} {l4 : Int32} {s0 : Int32} {s1 : Nat} : am_run 266 504 [some (.ref l0), some (.ref l1), some (.ref l2), some (.ref l3), some (.int l4), none, none, none] [.int s0, .ref s1] w = am_run 266 505 [some (.ref l0), some (.ref l1), some (.ref l2), some (.ref l3), some (.int l4), none, none, none] [.int (nI 0), .int s0, .ref s1] w := by
  refine (bu (ls'' := [some (.ref l0), some (.ref l1), some (.ref l2), some (.ref l3), some (.int l4), none, none, none]) (st' := [.int (nI 0), .int s0, .ref s1]) bf266_504 bf266_505 rfl rfl).trans ?_
  rfl
theorem bk266_500 {w : am_Wd} {l0 : Nat} {l1 : Nat} {l2 : Nat} {l3 : Nat} {l4 : Int32} {s0 : Int32} {s1 : Nat} : am_run 266 500 [some (.ref l0), some (.ref l1), some (.ref l2), some (.ref l3), some (.int l4), none, none, none] [.int s0, .ref s1] w = am_run 266 505 [some (.ref l0), some (.ref l1), some (.ref l2), some (.ref l3), some (.int l4), none, none, none] [.int (nI 1), .int s0, .ref s1] w := by
  refine (bu (ls'' := [some (.ref l0), some (.ref l1), some (.ref l2), some (.ref l3), some (.int l4), none, none, none]) (st' := [.int (nI 1), .int s0, .ref s1]) bf266_500 bf266_501 rfl rfl).trans ?_
  refine (bu (ls'' := [some (.ref l0), some (.ref l1), some (.ref l2), some (.ref l3), some (.int l4), none, none, none]) (st' := [.int (nI 1), .int s0, .ref s1]) bf266_501 bf266_505 rfl rfl).trans ?_
  rfl
theorem bk266_588 {w : am_Wd} {l0 : Nat} {l1 : Nat} {l2 : Nat} {l3 : Nat} {l4 : Int32} {s0 : Int32} {s1 : Nat} : am_run 266 588 [some (.ref l0), some (.ref l1), some (.ref l2), some (.ref l3), some (.int l4), none, none, none] [.int s0, .ref s1] w = am_run 266 589 [some (.ref l0), some (.ref l1), some (.ref l2), some (.ref l3), some (.int l4), none, none, none] [.int (nI 0), .int s0, .ref s1] w := by
  refine (bu (ls'' := [some (.ref l0), some (.ref l1), some (.ref l2), some (.ref l3), some (.int l4), none, none, none]) (st' := [.int (nI 0), .int s0, .ref s1]) bf266_588 bf266_589 rfl rfl).trans ?_
  rfl
theorem bk266_584 {w : am_Wd} {l0 : Nat} {l1 : Nat} {l2 : Nat} {l3 : Nat} {l4 : Int32} {s0 : Int32} {s1 : Nat} : am_run 266 584 [some (.ref l0), some (.ref l1), some (.ref l2), some (.ref l3), some (.int l4), none, none, none] [.int s0, .ref s1] w = am_run 266 589 [some (.ref l0), some (.ref l1), some (.ref l2), some (.ref l3), some (.int l4), none, none, none] [.int (nI 1), .int s0, .ref s1] w := by
  refine (bu (ls'' := [some (.ref l0), some (.ref l1), some (.ref l2), some (.ref l3), some (.int l4), none, none, none]) (st' := [.int (nI 1), .int s0, .ref s1]) bf266_584 bf266_585 rfl rfl).trans ?_
  refine (bu (ls'' := [some (.ref l0), some (.ref l1), some (.ref l2), some (.ref l3), some (.int l4), none, none, none]) (st' := [.int (nI 1), .int s0, .ref s1]) bf266_585 bf266_589 rfl rfl).trans ?_
  rfl
theorem bk266_644 {w : am_Wd} {l0 : Nat} {l1 : Nat} {l2 : Nat} {l3 : Nat} {l4 : Int32} {s0 : Int32} {s1 : Nat} : am_run 266 644 [some (.ref l0), some (.ref l1), some (.ref l2), some (.ref l3), some (.int l4), none, none, none] [.int s0, .ref s1] w = am_run 266 645 [some (.ref l0), some (.ref l1), some (.ref l2), some (.ref l3), some (.int l4), none, none, none] [.int (nI 0), .int s0, .ref s1] w := by
  refine (bu (ls'' := [some (.ref l0), some (.ref l1), some (.ref l2), some (.ref l3), some (.int l4), none, none, none]) (st' := [.int (nI 0), .int s0, .ref s1]) bf266_644 bf266_645 rfl rfl).trans ?_
  rfl
theorem bk266_640 {w : am_Wd} {l0 : Nat} {l1 : Nat} {l2 : Nat} {l3 : Nat} {l4 : Int32} {s0 : Int32} {s1 : Nat} : am_run 266 640 [some (.ref l0), some (.ref l1), some (.ref l2), some (.ref l3), some (.int l4), none, none, none] [.int s0, .ref s1] w = am_run 266 645 [some (.ref l0), some (.ref l1), some (.ref l2), some (.ref l3), some (.int l4), none, none, none] [.int (nI 1), .int s0, .ref s1] w := by
  refine (bu (ls'' := [some (.ref l0), some (.ref l1), some (.ref l2), some (.ref l3), some (.int l4), none, none, none]) (st' := [.int (nI 1), .int s0, .ref s1]) bf266_640 bf266_641 rfl rfl).trans ?_
  refine (bu (ls'' := [some (.ref l0), some (.ref l1), some (.ref l2), some (.ref l3), some (.int l4), none, none, none]) (st' := [.int (nI 1), .int s0, .ref s1]) bf266_641 bf266_645 rfl rfl).trans ?_
  rfl
theorem bk266_697 {w : am_Wd} {l0 : Nat} {l1 : Nat} {l2 : Nat} {l3 : Nat} {l4 : Int32} {s0 : Int32} : am_run 266 697 [some (.ref l0), some (.ref l1), some (.ref l2), some (.ref l3), some (.int l4), none, none, none] [.int s0] w = (am_ri 0 w l0 (l4 + (nI 1))).bind fun v => am_run 266 706 [some (.ref l0), some (.ref l1), some (.ref l2), some (.ref l3), some (.int l4), none, none, none] (.int v :: [.ref l2]) w := by
  refine (bu (ls'' := [some (.ref l0), some (.ref l1), some (.ref l2), some (.ref l3), some (.int l4), none, none, none]) (st' := []) bf266_697 bf266_699 rfl rfl).trans ?_
  refine (bu (ls'' := [some (.ref l0), some (.ref l1), some (.ref l2), some (.ref l3), some (.int l4), none, none, none]) (st' := [.ref l2]) bf266_699 bf266_700 rfl rfl).trans ?_
  refine (bu (ls'' := [some (.ref l0), some (.ref l1), some (.ref l2), some (.ref l3), some (.int l4), none, none, none]) (st' := [.ref l0, .ref l2]) bf266_700 bf266_701 rfl rfl).trans ?_
  refine (bu (ls'' := [some (.ref l0), some (.ref l1), some (.ref l2), some (.ref l3), some (.int l4), none, none, none]) (st' := [.int l4, .ref l0, .ref l2]) bf266_701 bf266_703 rfl rfl).trans ?_
  refine (bu (ls'' := [some (.ref l0), some (.ref l1), some (.ref l2), some (.ref l3), some (.int l4), none, none, none]) (st' := [.int (nI 1), .int l4, .ref l0, .ref l2]) bf266_703 bf266_704 rfl rfl).trans ?_
  refine (bu (ls'' := [some (.ref l0), some (.ref l1), some (.ref l2), some (.ref l3), some (.int l4), none, none, none]) (st' := [.int (l4 + (nI 1)), .ref l0, .ref l2]) bf266_704 bf266_705 rfl rfl).trans ?_
  exact bh bf266_705 bf266_706 rfl (fun _ _ => am_ge_rf w) rfl
theorem bk266_740 {w : am_Wd} {l0 : Nat} {l1 : Nat} {l2 : Nat} {l3 : Nat} {l4 : Int32} {s0 : Int32} {s1 : Nat} : am_run 266 740 [some (.ref l0), some (.ref l1), some (.ref l2), some (.ref l3), some (.int l4), none, none, none] [.int s0, .ref s1] w = (am_kf w s1 11).bind fun _ => (am_x 179 [.ref s1, .int s0] w).bind fun r => bct r fun v w' => am_run 266 743 [some (.ref l0), some (.ref l1), some (.ref l2), some (.ref l3), some (.int l4), none, none, none] (v.toList ++ []) w' := by
  exact bkV bf266_740 bf266_743 rfl (by decide +kernel) (Nat.le_of_ble_eq_true rfl) rfl (bhd rfl)
theorem bk266_765 {w : am_Wd} {l0 : Nat} {l1 : Nat} {l2 : Nat} {l3 : Nat} {l4 : Int32} {s0 : Int32} : am_run 266 765 [some (.ref l0), some (.ref l1), some (.ref l2), some (.ref l3), some (.int l4), none, none, none] [.int s0] w = (am_ri 0 w l0 (l4 + (nI 1))).bind fun v => am_run 266 774 [some (.ref l0), some (.ref l1), some (.ref l2), some (.ref l3), some (.int l4), none, none, none] (.int v :: [.ref l2]) w := by
  refine (bu (ls'' := [some (.ref l0), some (.ref l1), some (.ref l2), some (.ref l3), some (.int l4), none, none, none]) (st' := []) bf266_765 bf266_767 rfl rfl).trans ?_
  refine (bu (ls'' := [some (.ref l0), some (.ref l1), some (.ref l2), some (.ref l3), some (.int l4), none, none, none]) (st' := [.ref l2]) bf266_767 bf266_768 rfl rfl).trans ?_
  refine (bu (ls'' := [some (.ref l0), some (.ref l1), some (.ref l2), some (.ref l3), some (.int l4), none, none, none]) (st' := [.ref l0, .ref l2]) bf266_768 bf266_769 rfl rfl).trans ?_
  refine (bu (ls'' := [some (.ref l0), some (.ref l1), some (.ref l2), some (.ref l3), some (.int l4), none, none, none]) (st' := [.int l4, .ref l0, .ref l2]) bf266_769 bf266_771 rfl rfl).trans ?_
  refine (bu (ls'' := [some (.ref l0), some (.ref l1), some (.ref l2), some (.ref l3), some (.int l4), none, none, none]) (st' := [.int (nI 1), .int l4, .ref l0, .ref l2]) bf266_771 bf266_772 rfl rfl).trans ?_
  refine (bu (ls'' := [some (.ref l0), some (.ref l1), some (.ref l2), some (.ref l3), some (.int l4), none, none, none]) (st' := [.int (l4 + (nI 1)), .ref l0, .ref l2]) bf266_772 bf266_773 rfl rfl).trans ?_
  exact bh bf266_773 bf266_774 rfl (fun _ _ => am_ge_rf w) rfl
theorem bk266_808 {w : am_Wd} {l0 : Nat} {l1 : Nat} {l2 : Nat} {l3 : Nat} {l4 : Int32} {s0 : Int32} {s1 : Nat} : am_run 266 808 [some (.ref l0), some (.ref l1), some (.ref l2), some (.ref l3), some (.int l4), none, none, none] [.int s0, .ref s1] w = (am_kf w s1 11).bind fun _ => (am_x 145 [.ref s1, .int s0] w).bind fun r => bct r fun v w' => am_run 266 811 [some (.ref l0), some (.ref l1), some (.ref l2), some (.ref l3), some (.int l4), none, none, none] (v.toList ++ []) w' := by
  exact bkV bf266_808 bf266_811 rfl (by decide +kernel) (Nat.le_of_ble_eq_true rfl) rfl (bhd rfl)
theorem bk266_848 {w : am_Wd} {l0 : Nat} {l1 : Nat} {l2 : Nat} {l3 : Nat} {l4 : Int32} {s0 : Int32} {s1 : Int32} {s2 : Int32} {s3 : Nat} : am_run 266 848 [some (.ref l0), some (.ref l1), some (.ref l2), some (.ref l3), some (.int l4), none, none, none] [.int s0, .int s1, .int s2, .ref s3] w = (am_x 219 [.ref s3, .int s2, .int s1, .int s0, .ref l3] w).bind fun r => bct r fun v w' => am_run 266 852 [some (.ref l0), some (.ref l1), some (.ref l2), some (.ref l3), some (.int l4), none, none, none] (v.toList ++ []) w' := by
  refine (bu (ls'' := [some (.ref l0), some (.ref l1), some (.ref l2), some (.ref l3), some (.int l4), none, none, none]) (st' := [.ref l3, .int s0, .int s1, .int s2, .ref s3]) bf266_848 bf266_849 rfl rfl).trans ?_
  exact bkS bf266_849 bf266_852 rfl (by decide +kernel) (Nat.le_of_ble_eq_true rfl) rfl (bhd rfl)
theorem bk266_898 {w : am_Wd} {l0 : Nat} {l1 : Nat} {l2 : Nat} {l3 : Nat} {l4 : Int32} {s0 : Int32} : am_run 266 898 [some (.ref l0), some (.ref l1), some (.ref l2), some (.ref l3), some (.int l4), none, none, none] [.int s0] w = (am_ri 0 w l0 (l4 + (nI 1))).bind fun v => am_run 266 907 [some (.ref l0), some (.ref l1), some (.ref l2), some (.ref l3), some (.int l4), none, none, none] (.int v :: [.ref l2]) w := by
  refine (bu (ls'' := [some (.ref l0), some (.ref l1), some (.ref l2), some (.ref l3), some (.int l4), none, none, none]) (st' := []) bf266_898 bf266_900 rfl rfl).trans ?_
  refine (bu (ls'' := [some (.ref l0), some (.ref l1), some (.ref l2), some (.ref l3), some (.int l4), none, none, none]) (st' := [.ref l2]) bf266_900 bf266_901 rfl rfl).trans ?_
  refine (bu (ls'' := [some (.ref l0), some (.ref l1), some (.ref l2), some (.ref l3), some (.int l4), none, none, none]) (st' := [.ref l0, .ref l2]) bf266_901 bf266_902 rfl rfl).trans ?_
  refine (bu (ls'' := [some (.ref l0), some (.ref l1), some (.ref l2), some (.ref l3), some (.int l4), none, none, none]) (st' := [.int l4, .ref l0, .ref l2]) bf266_902 bf266_904 rfl rfl).trans ?_
  refine (bu (ls'' := [some (.ref l0), some (.ref l1), some (.ref l2), some (.ref l3), some (.int l4), none, none, none]) (st' := [.int (nI 1), .int l4, .ref l0, .ref l2]) bf266_904 bf266_905 rfl rfl).trans ?_
  refine (bu (ls'' := [some (.ref l0), some (.ref l1), some (.ref l2), some (.ref l3), some (.int l4), none, none, none]) (st' := [.int (l4 + (nI 1)), .ref l0, .ref l2]) bf266_905 bf266_906 rfl rfl).trans ?_
  exact bh bf266_906 bf266_907 rfl (fun _ _ => am_ge_rf w) rfl
theorem bk266_941 {w : am_Wd} {l0 : Nat} {l1 : Nat} {l2 : Nat} {l3 : Nat} {l4 : Int32} {s0 : Int32} {s1 : Nat} : am_run 266 941 [some (.ref l0), some (.ref l1), some (.ref l2), some (.ref l3), some (.int l4), none, none, none] [.int s0, .ref s1] w = (am_kf w s1 11).bind fun _ => (am_x 227 [.ref s1, .int s0] w).bind fun r => bct r fun v w' => am_run 266 944 [some (.ref l0), some (.ref l1), some (.ref l2), some (.ref l3), some (.int l4), none, none, none] (v.toList ++ []) w' := by
  exact bkV bf266_941 bf266_944 rfl (by decide +kernel) (Nat.le_of_ble_eq_true rfl) rfl (bhd rfl)
theorem bk266_969 {w : am_Wd} {l0 : Nat} {l1 : Nat} {l2 : Nat} {l3 : Nat} {l4 : Int32} {s0 : Int32} {s1 : Nat} : am_run 266 969 [some (.ref l0), some (.ref l1), some (.ref l2), some (.ref l3), some (.int l4), none, none, none] [.int s0, .ref s1] w = (am_kf w s1 11).bind fun _ => (am_x 246 [.ref s1, .int s0] w).bind fun r => bct r fun v w' => am_run 266 972 [some (.ref l0), some (.ref l1), some (.ref l2), some (.ref l3), some (.int l4), none, none, none] (v.toList ++ []) w' := by
  exact bkV bf266_969 bf266_972 rfl (by decide +kernel) (Nat.le_of_ble_eq_true rfl) rfl (bhd rfl)
theorem bk266_996 {w : am_Wd} {l0 : Nat} {l1 : Nat} {l2 : Nat} {l3 : Nat} {l4 : Int32} {s0 : Int32} {s1 : Int32} {s2 : Int32} {s3 : Nat} : am_run 266 996 [some (.ref l0), some (.ref l1), some (.ref l2), some (.ref l3), some (.int l4), none, none, none] [.int s0, .int s1, .int s2, .ref s3] w = (am_x 191 [.ref s3, .int s2, .int s1, .int s0, .ref l3] w).bind fun r => bct r fun v w' => am_run 266 1000 [some (.ref l0), some (.ref l1), some (.ref l2), some (.ref l3), some (.int l4), none, none, none] (v.toList ++ []) w' := by
  refine (bu (ls'' := [some (.ref l0), some (.ref l1), some (.ref l2), some (.ref l3), some (.int l4), none, none, none]) (st' := [.ref l3, .int s0, .int s1, .int s2, .ref s3]) bf266_996 bf266_997 rfl rfl).trans ?_
  exact bkS bf266_997 bf266_1000 rfl (by decide +kernel) (Nat.le_of_ble_eq_true rfl) rfl (bhd rfl)
theorem bk266_1046 {w : am_Wd} {l0 : Nat} {l1 : Nat} {l2 : Nat} {l3 : Nat} {l4 : Int32} {s0 : Int32} : am_run 266 1046 [some (.ref l0), some (.ref l1), some (.ref l2), some (.ref l3), some (.int l4), none, none, none] [.int s0] w = (am_ri 0 w l0 (l4 + (nI 1))).bind fun v => am_run 266 1055 [some (.ref l0), some (.ref l1), some (.ref l2), some (.ref l3), some (.int l4), none, none, none] (.int v :: [.ref l2]) w := by
  refine (bu (ls'' := [some (.ref l0), some (.ref l1), some (.ref l2), some (.ref l3), some (.int l4), none, none, none]) (st' := []) bf266_1046 bf266_1048 rfl rfl).trans ?_
  refine (bu (ls'' := [some (.ref l0), some (.ref l1), some (.ref l2), some (.ref l3), some (.int l4), none, none, none]) (st' := [.ref l2]) bf266_1048 bf266_1049 rfl rfl).trans ?_
  refine (bu (ls'' := [some (.ref l0), some (.ref l1), some (.ref l2), some (.ref l3), some (.int l4), none, none, none]) (st' := [.ref l0, .ref l2]) bf266_1049 bf266_1050 rfl rfl).trans ?_
  refine (bu (ls'' := [some (.ref l0), some (.ref l1), some (.ref l2), some (.ref l3), some (.int l4), none, none, none]) (st' := [.int l4, .ref l0, .ref l2]) bf266_1050 bf266_1052 rfl rfl).trans ?_
  refine (bu (ls'' := [some (.ref l0), some (.ref l1), some (.ref l2), some (.ref l3), some (.int l4), none, none, none]) (st' := [.int (nI 1), .int l4, .ref l0, .ref l2]) bf266_1052 bf266_1053 rfl rfl).trans ?_
  refine (bu (ls'' := [some (.ref l0), some (.ref l1), some (.ref l2), some (.ref l3), some (.int l4), none, none, none]) (st' := [.int (l4 + (nI 1)), .ref l0, .ref l2]) bf266_1053 bf266_1054 rfl rfl).trans ?_
  exact bh bf266_1054 bf266_1055 rfl (fun _ _ => am_ge_rf w) rfl
theorem bk266_1086 {w : am_Wd} {l0 : Nat} {l1 : Nat} {l2 : Nat} {l3 : Nat} {l4 : Int32} {s0 : Int32} : am_run 266 1086 [some (.ref l0), some (.ref l1), some (.ref l2), some (.ref l3), some (.int l4), none, none, none] [.int s0] w = (am_ri 0 w l0 (l4 + (nI 1))).bind fun v => am_run 266 1095 [some (.ref l0), some (.ref l1), some (.ref l2), some (.ref l3), some (.int l4), none, none, none] (.int v :: [.ref l2]) w := by
  refine (bu (ls'' := [some (.ref l0), some (.ref l1), some (.ref l2), some (.ref l3), some (.int l4), none, none, none]) (st' := []) bf266_1086 bf266_1088 rfl rfl).trans ?_
  refine (bu (ls'' := [some (.ref l0), some (.ref l1), some (.ref l2), some (.ref l3), some (.int l4), none, none, none]) (st' := [.ref l2]) bf266_1088 bf266_1089 rfl rfl).trans ?_
  refine (bu (ls'' := [some (.ref l0), some (.ref l1), some (.ref l2), some (.ref l3), some (.int l4), none, none, none]) (st' := [.ref l0, .ref l2]) bf266_1089 bf266_1090 rfl rfl).trans ?_
  refine (bu (ls'' := [some (.ref l0), some (.ref l1), some (.ref l2), some (.ref l3), some (.int l4), none, none, none]) (st' := [.int l4, .ref l0, .ref l2]) bf266_1090 bf266_1092 rfl rfl).trans ?_
  refine (bu (ls'' := [some (.ref l0), some (.ref l1), some (.ref l2), some (.ref l3), some (.int l4), none, none, none]) (st' := [.int (nI 1), .int l4, .ref l0, .ref l2]) bf266_1092 bf266_1093 rfl rfl).trans ?_
  refine (bu (ls'' := [some (.ref l0), some (.ref l1), some (.ref l2), some (.ref l3), some (.int l4), none, none, none]) (st' := [.int (l4 + (nI 1)), .ref l0, .ref l2]) bf266_1093 bf266_1094 rfl rfl).trans ?_
  exact bh bf266_1094 bf266_1095 rfl (fun _ _ => am_ge_rf w) rfl
theorem bk266_1128 {w : am_Wd} {l0 : Nat} {l1 : Nat} {l2 : Nat} {l3 : Nat} {l4 : Int32} {s0 : Int32} {s1 : Int32} {s2 : Int32} {s3 : Nat} : am_run 266 1128 [some (.ref l0), some (.ref l1), some (.ref l2), some (.ref l3), some (.int l4), none, none, none] [.int s0, .int s1, .int s2, .ref s3] w = (am_x 194 [.ref s3, .int s2, .int s1, .int s0, .ref l3] w).bind fun r => bct r fun v w' => am_run 266 1132 [some (.ref l0), some (.ref l1), some (.ref l2), some (.ref l3), some (.int l4), none, none, none] (v.toList ++ []) w' := by
  refine (bu (ls'' := [some (.ref l0), some (.ref l1), some (.ref l2), some (.ref l3), some (.int l4), none, none, none]) (st' := [.ref l3, .int s0, .int s1, .int s2, .ref s3]) bf266_1128 bf266_1129 rfl rfl).trans ?_
  exact bkS bf266_1129 bf266_1132 rfl (by decide +kernel) (Nat.le_of_ble_eq_true rfl) rfl (bhd rfl)
theorem bk266_1178 {w : am_Wd} {l0 : Nat} {l1 : Nat} {l2 : Nat} {l3 : Nat} {l4 : Int32} {s0 : Int32} : am_run 266 1178 [some (.ref l0), some (.ref l1), some (.ref l2), some (.ref l3), some (.int l4), none, none, none] [.int s0] w = (am_ri 0 w l0 (l4 + (nI 1))).bind fun v => am_run 266 1187 [some (.ref l0), some (.ref l1), some (.ref l2), some (.ref l3), some (.int l4), none, none, none] (.int v :: [.ref l2]) w := by
  refine (bu (ls'' := [some (.ref l0), some (.ref l1), some (.ref l2), some (.ref l3), some (.int l4), none, none, none]) (st' := []) bf266_1178 bf266_1180 rfl rfl).trans ?_
  refine (bu (ls'' := [some (.ref l0), some (.ref l1), some (.ref l2), some (.ref l3), some (.int l4), none, none, none]) (st' := [.ref l2]) bf266_1180 bf266_1181 rfl rfl).trans ?_
  refine (bu (ls'' := [some (.ref l0), some (.ref l1), some (.ref l2), some (.ref l3), some (.int l4), none, none, none]) (st' := [.ref l0, .ref l2]) bf266_1181 bf266_1182 rfl rfl).trans ?_
  refine (bu (ls'' := [some (.ref l0), some (.ref l1), some (.ref l2), some (.ref l3), some (.int l4), none, none, none]) (st' := [.int l4, .ref l0, .ref l2]) bf266_1182 bf266_1184 rfl rfl).trans ?_
  refine (bu (ls'' := [some (.ref l0), some (.ref l1), some (.ref l2), some (.ref l3), some (.int l4), none, none, none]) (st' := [.int (nI 1), .int l4, .ref l0, .ref l2]) bf266_1184 bf266_1185 rfl rfl).trans ?_
  refine (bu (ls'' := [some (.ref l0), some (.ref l1), some (.ref l2), some (.ref l3), some (.int l4), none, none, none]) (st' := [.int (l4 + (nI 1)), .ref l0, .ref l2]) bf266_1185 bf266_1186 rfl rfl).trans ?_
  exact bh bf266_1186 bf266_1187 rfl (fun _ _ => am_ge_rf w) rfl
theorem bk266_1221 {w : am_Wd} {l0 : Nat} {l1 : Nat} {l2 : Nat} {l3 : Nat} {l4 : Int32} {s0 : Int32} {s1 : Nat} : am_run 266 1221 [some (.ref l0), some (.ref l1), some (.ref l2), some (.ref l3), some (.int l4), none, none, none] [.int s0, .ref s1] w = (am_kf w s1 11).bind fun _ => (am_x 185 [.ref s1, .int s0] w).bind fun r => bct r fun v w' => am_run 266 1224 [some (.ref l0), some (.ref l1), some (.ref l2), some (.ref l3), some (.int l4), none, none, none] (v.toList ++ []) w' := by
  exact bkV bf266_1221 bf266_1224 rfl (by decide +kernel) (Nat.le_of_ble_eq_true rfl) rfl (bhd rfl)
theorem bk266_1246 {w : am_Wd} {l0 : Nat} {l1 : Nat} {l2 : Nat} {l3 : Nat} {l4 : Int32} {s0 : Int32} : am_run 266 1246 [some (.ref l0), some (.ref l1), some (.ref l2), some (.ref l3), some (.int l4), none, none, none] [.int s0] w = (am_ri 0 w l0 (l4 + (nI 1))).bind fun v => am_run 266 1255 [some (.ref l0), some (.ref l1), some (.ref l2), some (.ref l3), some (.int l4), none, none, none] (.int v :: [.ref l2]) w := by
  refine (bu (ls'' := [some (.ref l0), some (.ref l1), some (.ref l2), some (.ref l3), some (.int l4), none, none, none]) (st' := []) bf266_1246 bf266_1248 rfl rfl).trans ?_
  refine (bu (ls'' := [some (.ref l0), some (.ref l1), some (.ref l2), some (.ref l3), some (.int l4), none, none, none]) (st' := [.ref l2]) bf266_1248 bf266_1249 rfl rfl).trans ?_
  refine (bu (ls'' := [some (.ref l0), some (.ref l1), some (.ref l2), some (.ref l3), some (.int l4), none, none, none]) (st' := [.ref l0, .ref l2]) bf266_1249 bf266_1250 rfl rfl).trans ?_
  refine (bu (ls'' := [some (.ref l0), some (.ref l1), some (.ref l2), some (.ref l3), some (.int l4), none, none, none]) (st' := [.int l4, .ref l0, .ref l2]) bf266_1250 bf266_1252 rfl rfl).trans ?_
  refine (bu (ls'' := [some (.ref l0), some (.ref l1), some (.ref l2), some (.ref l3), some (.int l4), none, none, none]) (st' := [.int (nI 1), .int l4, .ref l0, .ref l2]) bf266_1252 bf266_1253 rfl rfl).trans ?_
  refine (bu (ls'' := [some (.ref l0), some (.ref l1), some (.ref l2), some (.ref l3), some (.int l4), none, none, none]) (st' := [.int (l4 + (nI 1)), .ref l0, .ref l2]) bf266_1253 bf266_1254 rfl rfl).trans ?_
  exact bh bf266_1254 bf266_1255 rfl (fun _ _ => am_ge_rf w) rfl
theorem bk266_1289 {w : am_Wd} {l0 : Nat} {l1 : Nat} {l2 : Nat} {l3 : Nat} {l4 : Int32} {s0 : Int32} {s1 : Nat} : am_run 266 1289 [some (.ref l0), some (.ref l1), some (.ref l2), some (.ref l3), some (.int l4), none, none, none] [.int s0, .ref s1] w = (am_kf w s1 11).bind fun _ => (am_x 252 [.ref s1, .int s0] w).bind fun r => bct r fun v w' => am_run 266 1292 [some (.ref l0), some (.ref l1), some (.ref l2), some (.ref l3), some (.int l4), none, none, none] (v.toList ++ []) w' := by
  exact bkV bf266_1289 bf266_1292 rfl (by decide +kernel) (Nat.le_of_ble_eq_true rfl) rfl (bhd rfl)
theorem bk266_1314 {w : am_Wd} {l0 : Nat} {l1 : Nat} {l2 : Nat} {l3 : Nat} {l4 : Int32} {s0 : Int32} : am_run 266 1314 [some (.ref l0), some (.ref l1), some (.ref l2), some (.ref l3), some (.int l4), none, none, none] [.int s0] w = (am_ri 0 w l0 (l4 + (nI 1))).bind fun v => am_run 266 1323 [some (.ref l0), some (.ref l1), some (.ref l2), some (.ref l3), some (.int l4), none, none, none] (.int v :: [.ref l2]) w := by
  refine (bu (ls'' := [some (.ref l0), some (.ref l1), some (.ref l2), some (.ref l3), some (.int l4), none, none, none]) (st' := []) bf266_1314 bf266_1316 rfl rfl).trans ?_
  refine (bu (ls'' := [some (.ref l0), some (.ref l1), some (.ref l2), some (.ref l3), some (.int l4), none, none, none]) (st' := [.ref l2]) bf266_1316 bf266_1317 rfl rfl).trans ?_
  refine (bu (ls'' := [some (.ref l0), some (.ref l1), some (.ref l2), some (.ref l3), some (.int l4), none, none, none]) (st' := [.ref l0, .ref l2]) bf266_1317 bf266_1318 rfl rfl).trans ?_
  refine (bu (ls'' := [some (.ref l0), some (.ref l1), some (.ref l2), some (.ref l3), some (.int l4), none, none, none]) (st' := [.int l4, .ref l0, .ref l2]) bf266_1318 bf266_1320 rfl rfl).trans ?_
  refine (bu (ls'' := [some (.ref l0), some (.ref l1), some (.ref l2), some (.ref l3), some (.int l4), none, none, none]) (st' := [.int (nI 1), .int l4, .ref l0, .ref l2]) bf266_1320 bf266_1321 rfl rfl).trans ?_
  refine (bu (ls'' := [some (.ref l0), some (.ref l1), some (.ref l2), some (.ref l3), some (.int l4), none, none, none]) (st' := [.int (l4 + (nI 1)), .ref l0, .ref l2]) bf266_1321 bf266_1322 rfl rfl).trans ?_
  exact bh bf266_1322 bf266_1323 rfl (fun _ _ => am_ge_rf w) rfl
theorem bk266_1354 {w : am_Wd} {l0 : Nat} {l1 : Nat} {l2 : Nat} {l3 : Nat} {l4 : Int32} {s0 : Int32} : am_run 266 1354 [some (.ref l0), some (.ref l1), some (.ref l2), some (.ref l3), some (.int l4), none, none, none] [.int s0] w = (am_ri 0 w l0 (l4 + (nI 1))).bind fun v => am_run 266 1363 [some (.ref l0), some (.ref l1), some (.ref l2), some (.ref l3), some (.int l4), none, none, none] (.int v :: [.ref l2]) w := by
  refine (bu (ls'' := [some (.ref l0), some (.ref l1), some (.ref l2), some (.ref l3), some (.int l4), none, none, none]) (st' := []) bf266_1354 bf266_1356 rfl rfl).trans ?_
  refine (bu (ls'' := [some (.ref l0), some (.ref l1), some (.ref l2), some (.ref l3), some (.int l4), none, none, none]) (st' := [.ref l2]) bf266_1356 bf266_1357 rfl rfl).trans ?_
  refine (bu (ls'' := [some (.ref l0), some (.ref l1), some (.ref l2), some (.ref l3), some (.int l4), none, none, none]) (st' := [.ref l0, .ref l2]) bf266_1357 bf266_1358 rfl rfl).trans ?_
  refine (bu (ls'' := [some (.ref l0), some (.ref l1), some (.ref l2), some (.ref l3), some (.int l4), none, none, none]) (st' := [.int l4, .ref l0, .ref l2]) bf266_1358 bf266_1360 rfl rfl).trans ?_
  refine (bu (ls'' := [some (.ref l0), some (.ref l1), some (.ref l2), some (.ref l3), some (.int l4), none, none, none]) (st' := [.int (nI 1), .int l4, .ref l0, .ref l2]) bf266_1360 bf266_1361 rfl rfl).trans ?_
  refine (bu (ls'' := [some (.ref l0), some (.ref l1), some (.ref l2), some (.ref l3), some (.int l4), none, none, none]) (st' := [.int (l4 + (nI 1)), .ref l0, .ref l2]) bf266_1361 bf266_1362 rfl rfl).trans ?_
  exact bh bf266_1362 bf266_1363 rfl (fun _ _ => am_ge_rf w) rfl
theorem bk266_1402 {w : am_Wd}  : am_run 266 1402 [none, none, none, none, none, none, none, none] [] w = some (.inl (some (.int (nI 0))), w) := by
  refine (bu (ls'' := [none, none, none, none, none, none, none, none]) (st' := [.int (nI 0)]) bf266_1402 bf266_1403 rfl rfl).trans ?_
  exact am_e2 bf266_1403 rfl (am_ge_rf w)
theorem bk266_197 {w : am_Wd} {l0 : Nat} {l1 : Nat} {l2 : Nat} {l3 : Nat} {l4 : Int32} {s0 : Int32} {s1 : Int32} {s2 : Int32} {s3 : Int32} {s4 : Nat} : am_run 266 197 [some (.ref l0), some (.ref l1), some (.ref l2), some (.ref l3), some (.int l4), none, none, none] [.int s0, .int s1, .int s2, .int s3, .ref s4] w = (am_x 216 [.ref s4, .int s3, .int s2, .int s1, .int s0, .ref l3] w).bind fun r => bct r fun v w' => am_run 266 201 [some (.ref l0), some (.ref l1), some (.ref l2), some (.ref l3), some (.int l4), none, none, none] (v.toList ++ []) w' := by
  refine (bu (ls'' := [some (.ref l0), some (.ref l1), some (.ref l2), some (.ref l3), some (.int l4), none, none, none]) (st' := [.ref l3, .int s0, .int s1, .int s2, .int s3, .ref s4]) bf266_197 bf266_198 rfl rfl).trans ?_
  exact bkS bf266_198 bf266_201 rfl (by decide +kernel) (Nat.le_of_ble_eq_true rfl) rfl (bhd rfl)
theorem bk266_259 {w : am_Wd} {l0 : Nat} {l1 : Nat} {l2 : Nat} {l3 : Nat} {l4 : Int32} {s0 : Int32} : am_run 266 259 [some (.ref l0), some (.ref l1), some (.ref l2), some (.ref l3), some (.int l4), none, none, none] [.int s0] w = am_run 266 1404 [some (.ref l0), some (.ref l1), some (.ref l2), some (.ref l3), some (.int l4), none, none, none] [] w := by
  refine (bu (ls'' := [some (.ref l0), some (.ref l1), some (.ref l2), some (.ref l3), some (.int l4), none, none, none]) (st' := []) bf266_259 bf266_261 rfl rfl).trans ?_
  refine (bu (ls'' := [some (.ref l0), some (.ref l1), some (.ref l2), some (.ref l3), some (.int l4), none, none, none]) (st' := []) bf266_261 bf266_1404 rfl rfl).trans ?_
  rfl
theorem bk266_285 {w : am_Wd} {l0 : Nat} {l1 : Nat} {l2 : Nat} {l3 : Nat} {l4 : Int32} {s0 : Int32} {s1 : Int32} {s2 : Nat} : am_run 266 285 [some (.ref l0), some (.ref l1), some (.ref l2), some (.ref l3), some (.int l4), none, none, none] [.int s0, .int s1, .ref s2] w = (am_ri 0 w l0 (l4 + (nI 3))).bind fun v => am_run 266 291 [some (.ref l0), some (.ref l1), some (.ref l2), some (.ref l3), some (.int l4), none, none, none] (.int v :: [.int s0, .int s1, .ref s2]) w := by
  refine (bu (ls'' := [some (.ref l0), some (.ref l1), some (.ref l2), some (.ref l3), some (.int l4), none, none, none]) (st' := [.ref l0, .int s0, .int s1, .ref s2]) bf266_285 bf266_286 rfl rfl).trans ?_
  refine (bu (ls'' := [some (.ref l0), some (.ref l1), some (.ref l2), some (.ref l3), some (.int l4), none, none, none]) (st' := [.int l4, .ref l0, .int s0, .int s1, .ref s2]) bf266_286 bf266_288 rfl rfl).trans ?_
  refine (bu (ls'' := [some (.ref l0), some (.ref l1), some (.ref l2), some (.ref l3), some (.int l4), none, none, none]) (st' := [.int (nI 3), .int l4, .ref l0, .int s0, .int s1, .ref s2]) bf266_288 bf266_289 rfl rfl).trans ?_
  refine (bu (ls'' := [some (.ref l0), some (.ref l1), some (.ref l2), some (.ref l3), some (.int l4), none, none, none]) (st' := [.int (l4 + (nI 3)), .ref l0, .int s0, .int s1, .ref s2]) bf266_289 bf266_290 rfl rfl).trans ?_
  exact bh bf266_290 bf266_291 rfl (fun _ _ => am_ge_rf w) rfl
theorem bk266_373 {w : am_Wd} {l0 : Nat} {l1 : Nat} {l2 : Nat} {l3 : Nat} {l4 : Int32} {s0 : Int32} {s1 : Int32} {s2 : Int32} {s3 : Int32} {s4 : Nat} : am_run 266 373 [some (.ref l0), some (.ref l1), some (.ref l2), some (.ref l3), some (.int l4), none, none, none] [.int s0, .int s1, .int s2, .int s3, .ref s4] w = if s0 = nI 0 then am_run 266 380 [some (.ref l0), some (.ref l1), some (.ref l2), some (.ref l3), some (.int l4), none, none, none] [.int s1, .int s2, .int s3, .ref s4] w else am_run 266 376 [some (.ref l0), some (.ref l1), some (.ref l2), some (.ref l3), some (.int l4), none, none, none] [.int s1, .int s2, .int s3, .ref s4] w := by
  exact bifc bf266_373 rfl bf266_380 bf266_376 rfl rfl rfl
theorem bk266_449 {w : am_Wd} {l0 : Nat} {l1 : Nat} {l2 : Nat} {l3 : Nat} {l4 : Int32} {s0 : Int32} {s1 : Int32} {s2 : Nat} : am_run 266 449 [some (.ref l0), some (.ref l1), some (.ref l2), some (.ref l3), some (.int l4), none, none, none] [.int s0, .int s1, .ref s2] w = (am_x 253 [.ref s2, .int s1, .int s0, .ref l3] w).bind fun r => bct r fun v w' => am_run 266 453 [some (.ref l0), some (.ref l1), some (.ref l2), some (.ref l3), some (.int l4), none, none, none] (v.toList ++ []) w' := by
  refine (bu (ls'' := [some (.ref l0), some (.ref l1), some (.ref l2), some (.ref l3), some (.int l4), none, none, none]) (st' := [.ref l3, .int s0, .int s1, .ref s2]) bf266_449 bf266_450 rfl rfl).trans ?_
  exact bkS bf266_450 bf266_453 rfl (by decide +kernel) (Nat.le_of_ble_eq_true rfl) rfl (bhd rfl)
theorem bk266_505 {w : am_Wd} {l0 : Nat} {l1 : Nat} {l2 : Nat} {l3 : Nat} {l4 : Int32} {s0 : Int32} {s1 : Int32} {s2 : Nat} : am_run 266 505 [some (.ref l0), some (.ref l1), some (.ref l2), some (.ref l3), some (.int l4), none, none, none] [.int s0, .int s1, .ref s2] w = (am_ri 0 w l0 (l4 + (nI 3))).bind fun v => am_run 266 511 [some (.ref l0), some (.ref l1), some (.ref l2), some (.ref l3), some (.int l4), none, none, none] (.int v :: [.int s0, .int s1, .ref s2]) w := by
  refine (bu (ls'' := [some (.ref l0), some (.ref l1), some (.ref l2), some (.ref l3), some (.int l4), none, none, none]) (st' := [.ref l0, .int s0, .int s1, .ref s2]) bf266_505 bf266_506 rfl rfl).trans ?_
  refine (bu (ls'' := [some (.ref l0), some (.ref l1), some (.ref l2), some (.ref l3), some (.int l4), none, none, none]) (st' := [.int l4, .ref l0, .int s0, .int s1, .ref s2]) bf266_506 bf266_508 rfl rfl).trans ?_
  refine (bu (ls'' := [some (.ref l0), some (.ref l1), some (.ref l2), some (.ref l3), some (.int l4), none, none, none]) (st' := [.int (nI 3), .int l4, .ref l0, .int s0, .int s1, .ref s2]) bf266_508 bf266_509 rfl rfl).trans ?_
  refine (bu (ls'' := [some (.ref l0), some (.ref l1), some (.ref l2), some (.ref l3), some (.int l4), none, none, none]) (st' := [.int (l4 + (nI 3)), .ref l0, .int s0, .int s1, .ref s2]) bf266_509 bf266_510 rfl rfl).trans ?_
  exact bh bf266_510 bf266_511 rfl (fun _ _ => am_ge_rf w) rfl
theorem bk266_589 {w : am_Wd} {l0 : Nat} {l1 : Nat} {l2 : Nat} {l3 : Nat} {l4 : Int32} {s0 : Int32} {s1 : Int32} {s2 : Nat} : am_run 266 589 [some (.ref l0), some (.ref l1), some (.ref l2), some (.ref l3), some (.int l4), none, none, none] [.int s0, .int s1, .ref s2] w = (am_x 255 [.ref s2, .int s1, .int s0, .ref l3] w).bind fun r => bct r fun v w' => am_run 266 593 [some (.ref l0), some (.ref l1), some (.ref l2), some (.ref l3), some (.int l4), none, none, none] (v.toList ++ []) w' := by
  refine (bu (ls'' := [some (.ref l0), some (.ref l1), some (.ref l2), some (.ref l3), some (.int l4), none, none, none]) (st' := [.ref l3, .int s0, .int s1, .ref s2]) bf266_589 bf266_590 rfl rfl).trans ?_
  exact bkS bf266_590 bf266_593 rfl (by decide +kernel) (Nat.le_of_ble_eq_true rfl) rfl (bhd rfl)
theorem bk266_645 {w : am_Wd} {l0 : Nat} {l1 : Nat} {l2 : Nat} {l3 : Nat} {l4 : Int32} {s0 : Int32} {s1 : Int32} {s2 : Nat} : am_run 266 645 [some (.ref l0), some (.ref l1), some (.ref l2), some (.ref l3), some (.int l4), none, none, none] [.int s0, .int s1, .ref s2] w = (am_x 256 [.ref s2, .int s1, .int s0, .ref l3] w).bind fun r => bct r fun v w' => am_run 266 649 [some (.ref l0), some (.ref l1), some (.ref l2), some (.ref l3), some (.int l4), none, none, none] (v.toList ++ []) w' := by
  refine (bu (ls'' := [some (.ref l0), some (.ref l1), some (.ref l2), some (.ref l3), some (.int l4), none, none, none]) (st' := [.ref l3, .int s0, .int s1, .ref s2]) bf266_645 bf266_646 rfl rfl).trans ?_
  exact bkS bf266_646 bf266_649 rfl (by decide +kernel) (Nat.le_of_ble_eq_true rfl) rfl (bhd rfl)
theorem bk266_706 {w : am_Wd} {l0 : Nat} {l1 : Nat} {l2 : Nat} {l3 : Nat} {l4 : Int32} {s0 : Int32} {s1 : Nat} : am_run 266 706 [some (.ref l0), some (.ref l1), some (.ref l2), some (.ref l3), some (.int l4), none, none, none] [.int s0, .ref s1] w = (am_ri 0 w l0 (l4 + (nI 2))).bind fun v => am_run 266 712 [some (.ref l0), some (.ref l1), some (.ref l2), some (.ref l3), some (.int l4), none, none, none] (.int v :: [.int s0, .ref s1]) w := by
  refine (bu (ls'' := [some (.ref l0), some (.ref l1), some (.ref l2), some (.ref l3), some (.int l4), none, none, none]) (st' := [.ref l0, .int s0, .ref s1]) bf266_706 bf266_707 rfl rfl).trans ?_
  refine (bu (ls'' := [some (.ref l0), some (.ref l1), some (.ref l2), some (.ref l3), some (.int l4), none, none, none]) (st' := [.int l4, .ref l0, .int s0, .ref s1]) bf266_707 bf266_709 rfl rfl).trans ?_
  refine (bu (ls'' := [some (.ref l0), some (.ref l1), some (.ref l2), some (.ref l3), some (.int l4), none, none, none]) (st' := [.int (nI 2), .int l4, .ref l0, .int s0, .ref s1]) bf266_709 bf266_710 rfl rfl).trans ?_
  refine (bu (ls'' := [some (.ref l0), some (.ref l1), some (.ref l2), some (.ref l3), some (.int l4), none, none, none]) (st' := [.int (l4 + (nI 2)), .ref l0, .int s0, .ref s1]) bf266_710 bf266_711 rfl rfl).trans ?_
  exact bh bf266_711 bf266_712 rfl (fun _ _ => am_ge_rf w) rfl
theorem bk266_743 {w : am_Wd} {l0 : Nat} {l1 : Nat} {l2 : Nat} {l3 : Nat} {l4 : Int32} {s0 : Int32} : am_run 266 743 [some (.ref l0), some (.ref l1), some (.ref l2), some (.ref l3), some (.int l4), none, none, none] [.int s0] w = am_run 266 1404 [some (.ref l0), some (.ref l1), some (.ref l2), some (.ref l3), some (.int l4), none, none, none] [] w := by
  refine (bu (ls'' := [some (.ref l0), some (.ref l1), some (.ref l2), some (.ref l3), some (.int l4), none, none, none]) (st' := []) bf266_743 bf266_745 rfl rfl).trans ?_
  refine (bu (ls'' := [some (.ref l0), some (.ref l1), some (.ref l2), some (.ref l3), some (.int l4), none, none, none]) (st' := []) bf266_745 bf266_1404 rfl rfl).trans ?_
  rfl
theorem bk266_774 {w : am_Wd} {l0 : Nat} {l1 : Nat} {l2 : Nat} {l3 : Nat} {l4 : Int32} {s0 : Int32} {s1 : Nat} : am_run 266 774 [some (.ref l0), some (.ref l1), some (.ref l2), some (.ref l3), some (.int l4), none, none, none] [.int s0, .ref s1] w = (am_ri 0 w l0 (l4 + (nI 2))).bind fun v => am_run 266 780 [some (.ref l0), some (.ref l1), some (.ref l2), some (.ref l3), some (.int l4), none, none, none] (.int v :: [.int s0, .ref s1]) w := by
  refine (bu (ls'' := [some (.ref l0), some (.ref l1), some (.ref l2), some (.ref l3), some (.int l4), none, none, none]) (st' := [.ref l0, .int s0, .ref s1]) bf266_774 bf266_775 rfl rfl).trans ?_
  refine (bu (ls'' := [some (.ref l0), some (.ref l1), some (.ref l2), some (.ref l3), some (.int l4), none, none, none]) (st' := [.int l4, .ref l0, .int s0, .ref s1]) bf266_775 bf266_777 rfl rfl).trans ?_
  refine (bu (ls'' := [some (.ref l0), some (.ref l1), some (.ref l2), some (.ref l3), some (.int l4), none, none, none]) (st' := [.int (nI 2), .int l4, .ref l0, .int s0, .ref s1]) bf266_777 bf266_778 rfl rfl).trans ?_
  refine (bu (ls'' := [some (.ref l0), some (.ref l1), some (.ref l2), some (.ref l3), some (.int l4), none, none, none]) (st' := [.int (l4 + (nI 2)), .ref l0, .int s0, .ref s1]) bf266_778 bf266_779 rfl rfl).trans ?_
  exact bh bf266_779 bf266_780 rfl (fun _ _ => am_ge_rf w) rfl
theorem bk266_811 {w : am_Wd} {l0 : Nat} {l1 : Nat} {l2 : Nat} {l3 : Nat} {l4 : Int32} {s0 : Int32} : am_run 266 811 [some (.ref l0), some (.ref l1), some (.ref l2), some (.ref l3), some (.int l4), none, none, none] [.int s0] w = am_run 266 1404 [some (.ref l0), some (.ref l1), some (.ref l2), some (.ref l3), some (.int l4), none, none, none] [] w := by
  refine (bu (ls'' := [some (.ref l0), some (.ref l1), some (.ref l2), some (.ref l3), some (.int l4), none, none, none]) (st' := []) bf266_811 bf266_813 rfl rfl).trans ?_
  refine (bu (ls'' := [some (.ref l0), some (.ref l1), some (.ref l2), some (.ref l3), some (.int l4), none, none, none]) (st' := []) bf266_813 bf266_1404 rfl rfl).trans ?_
  rfl
theorem bk266_852 {w : am_Wd} {l0 : Nat} {l1 : Nat} {l2 : Nat} {l3 : Nat} {l4 : Int32} {s0 : Int32} : am_run 266 852 [some (.ref l0), some (.ref l1), some (.ref l2), some (.ref l3), some (.int l4), none, none, none] [.int s0] w = (am_ri 0 w l0 (l4 + (nI 1))).bind fun v => am_run 266 861 [some (.ref l0), some (.ref l1), some (.ref l2), some (.ref l3), some (.int l4), none, none, none] (.int v :: [.ref l2]) w := by
  refine (bu (ls'' := [some (.ref l0), some (.ref l1), some (.ref l2), some (.ref l3), some (.int l4), none, none, none]) (st' := []) bf266_852 bf266_854 rfl rfl).trans ?_
  refine (bu (ls'' := [some (.ref l0), some (.ref l1), some (.ref l2), some (.ref l3), some (.int l4), none, none, none]) (st' := [.ref l2]) bf266_854 bf266_855 rfl rfl).trans ?_
  refine (bu (ls'' := [some (.ref l0), some (.ref l1), some (.ref l2), some (.ref l3), some (.int l4), none, none, none]) (st' := [.ref l0, .ref l2]) bf266_855 bf266_856 rfl rfl).trans ?_
  refine (bu (ls'' := [some (.ref l0), some (.ref l1), some (.ref l2), some (.ref l3), some (.int l4), none, none, none]) (st' := [.int l4, .ref l0, .ref l2]) bf266_856 bf266_858 rfl rfl).trans ?_
  refine (bu (ls'' := [some (.ref l0), some (.ref l1), some (.ref l2), some (.ref l3), some (.int l4), none, none, none]) (st' := [.int (nI 1), .int l4, .ref l0, .ref l2]) bf266_858 bf266_859 rfl rfl).trans ?_
  refine (bu (ls'' := [some (.ref l0), some (.ref l1), some (.ref l2), some (.ref l3), some (.int l4), none, none, none]) (st' := [.int (l4 + (nI 1)), .ref l0, .ref l2]) bf266_859 bf266_860 rfl rfl).trans ?_
  exact bh bf266_860 bf266_861 rfl (fun _ _ => am_ge_rf w) rfl
theorem bk266_907 {w : am_Wd} {l0 : Nat} {l1 : Nat} {l2 : Nat} {l3 : Nat} {l4 : Int32} {s0 : Int32} {s1 : Nat} : am_run 266 907 [some (.ref l0), some (.ref l1), some (.ref l2), some (.ref l3), some (.int l4), none, none, none] [.int s0, .ref s1] w = (am_ri 0 w l0 (l4 + (nI 2))).bind fun v => am_run 266 913 [some (.ref l0), some (.ref l1), some (.ref l2), some (.ref l3), some (.int l4), none, none, none] (.int v :: [.int s0, .ref s1]) w := by
  refine (bu (ls'' := [some (.ref l0), some (.ref l1), some (.ref l2), some (.ref l3), some (.int l4), none, none, none]) (st' := [.ref l0, .int s0, .ref s1]) bf266_907 bf266_908 rfl rfl).trans ?_
  refine (bu (ls'' := [some (.ref l0), some (.ref l1), some (.ref l2), some (.ref l3), some (.int l4), none, none, none]) (st' := [.int l4, .ref l0, .int s0, .ref s1]) bf266_908 bf266_910 rfl rfl).trans ?_
  refine (bu (ls'' := [some (.ref l0), some (.ref l1), some (.ref l2), some (.ref l3), some (.int l4), none, none, none]) (st' := [.int (nI 2), .int l4, .ref l0, .int s0, .ref s1]) bf266_910 bf266_911 rfl rfl).trans ?_
  refine (bu (ls'' := [some (.ref l0), some (.ref l1), some (.ref l2), some (.ref l3), some (.int l4), none, none, none]) (st' := [.int (l4 + (nI 2)), .ref l0, .int s0, .ref s1]) bf266_911 bf266_912 rfl rfl).trans ?_
  exact bh bf266_912 bf266_913 rfl (fun _ _ => am_ge_rf w) rfl
theorem bk266_944 {w : am_Wd} {l0 : Nat} {l1 : Nat} {l2 : Nat} {l3 : Nat} {l4 : Int32} {s0 : Int32} : am_run 266 944 [some (.ref l0), some (.ref l1), some (.ref l2), some (.ref l3), some (.int l4), none, none, none] [.int s0] w = am_run 266 1404 [some (.ref l0), some (.ref l1), some (.ref l2), some (.ref l3), some (.int l4), none, none, none] [] w := by
  refine (bu (ls'' := [some (.ref l0), some (.ref l1), some (.ref l2), some (.ref l3), some (.int l4), none, none, none]) (st' := []) bf266_944 bf266_946 rfl rfl).trans ?_
  refine (bu (ls'' := [some (.ref l0), some (.ref l1), some (.ref l2), some (.ref l3), some (.int l4), none, none, none]) (st' := []) bf266_946 bf266_1404 rfl rfl).trans ?_
  rfl
theorem bk266_972 {w : am_Wd} {l0 : Nat} {l1 : Nat} {l2 : Nat} {l3 : Nat} {l4 : Int32} {s0 : Nat} : am_run 266 972 [some (.ref l0), some (.ref l1), some (.ref l2), some (.ref l3), some (.int l4), none, none, none] [.ref s0] w = am_run 266 1404 [some (.ref l0), some (.ref l1), some (.ref l2), some (.ref l3), some (.int l4), none, none, none] [] w := by
  refine (bu (ls'' := [some (.ref l0), some (.ref l1), some (.ref l2), some (.ref l3), some (.int l4), none, none, none]) (st' := []) bf266_972 bf266_974 rfl rfl).trans ?_
  refine (bu (ls'' := [some (.ref l0), some (.ref l1), some (.ref l2), some (.ref l3), some (.int l4), none, none, none]) (st' := []) bf266_974 bf266_1404 rfl rfl).trans ?_
  rfl
theorem bk266_1000 {w : am_Wd} {l0 : Nat} {l1 : Nat} {l2 : Nat} {l3 : Nat} {l4 : Int32} {s0 : Int32} : am_run 266 1000 [some (.ref l0), some (.ref l1), some (.ref l2), some (.ref l3), some (.int l4), none, none, none] [.int s0] w = (am_ri 0 w l0 (l4 + (nI 1))).bind fun v => am_run 266 1009 [some (.ref l0), some (.ref l1), some (.ref l2), some (.ref l3), some (.int l4), none, none, none] (.int v :: [.ref l2]) w := by
  refine (bu (ls'' := [some (.ref l0), some (.ref l1), some (.ref l2), some (.ref l3), some (.int l4), none, none, none]) (st' := []) bf266_1000 bf266_1002 rfl rfl).trans ?_
  refine (bu (ls'' := [some (.ref l0), some (.ref l1), some (.ref l2), some (.ref l3), some (.int l4), none, none, none]) (st' := [.ref l2]) bf266_1002 bf266_1003 rfl rfl).trans ?_
  refine (bu (ls'' := [some (.ref l0), some (.ref l1), some (.ref l2), some (.ref l3), some (.int l4), none, none, none]) (st' := [.ref l0, .ref l2]) bf266_1003 bf266_1004 rfl rfl).trans ?_
  refine (bu (ls'' := [some (.ref l0), some (.ref l1), some (.ref l2), some (.ref l3), some (.int l4), none, none, none]) (st' := [.int l4, .ref l0, .ref l2]) bf266_1004 bf266_1006 rfl rfl).trans ?_
  refine (bu (ls'' := [some (.ref l0), some (.ref l1), some (.ref l2), some (.ref l3), some (.int l4), none, none, none]) (st' := [.int (nI 1), .int l4, .ref l0, .ref l2]) bf266_1006 bf266_1007 rfl rfl).trans ?_
  refine (bu (ls'' := [some (.ref l0), some (.ref l1), some (.ref l2), some (.ref l3), some (.int l4), none, none, none]) (st' := [.int (l4 + (nI 1)), .ref l0, .ref l2]) bf266_1007 bf266_1008 rfl rfl).trans ?_
  exact bh bf266_1008 bf266_1009 rfl (fun _ _ => am_ge_rf w) rfl
theorem bk266_1055 {w : am_Wd} {l0 : Nat} {l1 : Nat} {l2 : Nat} {l3 : Nat} {l4 : Int32} {s0 : Int32} {s1 : Nat} : am_run 266 1055 [some (.ref l0), some (.ref l1), some (.ref l2), some (.ref l3), some (.int l4), none, none, none] [.int s0, .ref s1] w = (am_ri 0 w l0 (l4 + (nI 2))).bind fun v => am_run 266 1061 [some (.ref l0), some (.ref l1), some (.ref l2), some (.ref l3), some (.int l4), none, none, none] (.int v :: [.int s0, .ref s1]) w := by
  refine (bu (ls'' := [some (.ref l0), some (.ref l1), some (.ref l2), some (.ref l3), some (.int l4), none, none, none]) (st' := [.ref l0, .int s0, .ref s1]) bf266_1055 bf266_1056 rfl rfl).trans ?_
  refine (bu (ls'' := [some (.ref l0), some (.ref l1), some (.ref l2), some (.ref l3), some (.int l4), none, none, none]) (st' := [.int l4, .ref l0, .int s0, .ref s1]) bf266_1056 bf266_1058 rfl rfl).trans ?_
  refine (bu (ls'' := [some (.ref l0), some (.ref l1), some (.ref l2), some (.ref l3), some (.int l4), none, none, none]) (st' := [.int (nI 2), .int l4, .ref l0, .int s0, .ref s1]) bf266_1058 bf266_1059 rfl rfl).trans ?_
  refine (bu (ls'' := [some (.ref l0), some (.ref l1), some (.ref l2), some (.ref l3), some (.int l4), none, none, none]) (st' := [.int (l4 + (nI 2)), .ref l0, .int s0, .ref s1]) bf266_1059 bf266_1060 rfl rfl).trans ?_
  exact bh bf266_1060 bf266_1061 rfl (fun _ _ => am_ge_rf w) rfl
theorem bk266_1095 {w : am_Wd} {l0 : Nat} {l1 : Nat} {l2 : Nat} {l3 : Nat} {l4 : Int32} {s0 : Int32} {s1 : Nat} : am_run 266 1095 [some (.ref l0), some (.ref l1), some (.ref l2), some (.ref l3), some (.int l4), none, none, none] [.int s0, .ref s1] w = (am_ri 0 w l0 (l4 + (nI 2))).bind fun v => am_run 266 1101 [some (.ref l0), some (.ref l1), some (.ref l2), some (.ref l3), some (.int l4), none, none, none] (.int v :: [.int s0, .ref s1]) w := by
  refine (bu (ls'' := [some (.ref l0), some (.ref l1), some (.ref l2), some (.ref l3), some (.int l4), none, none, none]) (st' := [.ref l0, .int s0, .ref s1]) bf266_1095 bf266_1096 rfl rfl).trans ?_
  refine (bu (ls'' := [some (.ref l0), some (.ref l1), some (.ref l2), some (.ref l3), some (.int l4), none, none, none]) (st' := [.int l4, .ref l0, .int s0, .ref s1]) bf266_1096 bf266_1098 rfl rfl).trans ?_
  refine (bu (ls'' := [some (.ref l0), some (.ref l1), some (.ref l2), some (.ref l3), some (.int l4), none, none, none]) (st' := [.int (nI 2), .int l4, .ref l0, .int s0, .ref s1]) bf266_1098 bf266_1099 rfl rfl).trans ?_
  refine (bu (ls'' := [some (.ref l0), some (.ref l1), some (.ref l2), some (.ref l3), some (.int l4), none, none, none]) (st' := [.int (l4 + (nI 2)), .ref l0, .int s0, .ref s1]) bf266_1099 bf266_1100 rfl rfl).trans ?_
  exact bh bf266_1100 bf266_1101 rfl (fun _ _ => am_ge_rf w) rfl
theorem bk266_1132 {w : am_Wd} {l0 : Nat} {l1 : Nat} {l2 : Nat} {l3 : Nat} {l4 : Int32} {s0 : Int32} : am_run 266 1132 [some (.ref l0), some (.ref l1), some (.ref l2), some (.ref l3), some (.int l4), none, none, none] [.int s0] w = (am_ri 0 w l0 (l4 + (nI 1))).bind fun v => am_run 266 1141 [some (.ref l0), some (.ref l1), some (.ref l2), some (.ref l3), some (.int l4), none, none, none] (.int v :: [.ref l2]) w := by
  refine (bu (ls'' := [some (.ref l0), some (.ref l1), some (.ref l2), some (.ref l3), some (.int l4), none, none, none]) (st' := []) bf266_1132 bf266_1134 rfl rfl).trans ?_
  refine (bu (ls'' := [some (.ref l0), some (.ref l1), some (.ref l2), some (.ref l3), some (.int l4), none, none, none]) (st' := [.ref l2]) bf266_1134 bf266_1135 rfl rfl).trans ?_
  refine (bu (ls'' := [some (.ref l0), some (.ref l1), some (.ref l2), some (.ref l3), some (.int l4), none, none, none]) (st' := [.ref l0, .ref l2]) bf266_1135 bf266_1136 rfl rfl).trans ?_
  refine (bu (ls'' := [some (.ref l0), some (.ref l1), some (.ref l2), some (.ref l3), some (.int l4), none, none, none]) (st' := [.int l4, .ref l0, .ref l2]) bf266_1136 bf266_1138 rfl rfl).trans ?_
  refine (bu (ls'' := [some (.ref l0), some (.ref l1), some (.ref l2), some (.ref l3), some (.int l4), none, none, none]) (st' := [.int (nI 1), .int l4, .ref l0, .ref l2]) bf266_1138 bf266_1139 rfl rfl).trans ?_
  refine (bu (ls'' := [some (.ref l0), some (.ref l1), some (.ref l2), some (.ref l3), some (.int l4), none, none, none]) (st' := [.int (l4 + (nI 1)), .ref l0, .ref l2]) bf266_1139 bf266_1140 rfl rfl).trans ?_
  exact bh bf266_1140 bf266_1141 rfl (fun _ _ => am_ge_rf w) rfl
theorem bk266_1187 {w : am_Wd} {l0 : Nat} {l1 : Nat} {l2 : Nat} {l3 : Nat} {l4 : Int32} {s0 : Int32} {s1 : Nat} : am_run 266 1187 [some (.ref l0), some (.ref l1), some (.ref l2), some (.ref l3), some (.int l4), none, none, none] [.int s0, .ref s1] w = (am_ri 0 w l0 (l4 + (nI 2))).bind fun v => am_run 266 1193 [some (.ref l0), some (.ref l1), some (.ref l2), some (.ref l3), some (.int l4), none, none, none] (.int v :: [.int s0, .ref s1]) w := by
  refine (bu (ls'' := [some (.ref l0), some (.ref l1), some (.ref l2), some (.ref l3), some (.int l4), none, none, none]) (st' := [.ref l0, .int s0, .ref s1]) bf266_1187 bf266_1188 rfl rfl).trans ?_
  refine (bu (ls'' := [some (.ref l0), some (.ref l1), some (.ref l2), some (.ref l3), some (.int l4), none, none, none]) (st' := [.int l4, .ref l0, .int s0, .ref s1]) bf266_1188 bf266_1190 rfl rfl).trans ?_
  refine (bu (ls'' := [some (.ref l0), some (.ref l1), some (.ref l2), some (.ref l3), some (.int l4), none, none, none]) (st' := [.int (nI 2), .int l4, .ref l0, .int s0, .ref s1]) bf266_1190 bf266_1191 rfl rfl).trans ?_
  refine (bu (ls'' := [some (.ref l0), some (.ref l1), some (.ref l2), some (.ref l3), some (.int l4), none, none, none]) (st' := [.int (l4 + (nI 2)), .ref l0, .int s0, .ref s1]) bf266_1191 bf266_1192 rfl rfl).trans ?_
  exact bh bf266_1192 bf266_1193 rfl (fun _ _ => am_ge_rf w) rfl
theorem bk266_1224 {w : am_Wd} {l0 : Nat} {l1 : Nat} {l2 : Nat} {l3 : Nat} {l4 : Int32} {s0 : UInt64} : am_run 266 1224 [some (.ref l0), some (.ref l1), some (.ref l2), some (.ref l3), some (.int l4), none, none, none] [.double s0] w = am_run 266 1404 [some (.ref l0), some (.ref l1), some (.ref l2), some (.ref l3), some (.int l4), none, none, none] [] w := by
  refine (bu (ls'' := [some (.ref l0), some (.ref l1), some (.ref l2), some (.ref l3), some (.int l4), none, none, none]) (st' := []) bf266_1224 bf266_1226 rfl rfl).trans ?_
  refine (bu (ls'' := [some (.ref l0), some (.ref l1), some (.ref l2), some (.ref l3), some (.int l4), none, none, none]) (st' := []) bf266_1226 bf266_1404 rfl rfl).trans ?_
  rfl
theorem bk266_1255 {w : am_Wd} {l0 : Nat} {l1 : Nat} {l2 : Nat} {l3 : Nat} {l4 : Int32} {s0 : Int32} {s1 : Nat} : am_run 266 1255 [some (.ref l0), some (.ref l1), some (.ref l2), some (.ref l3), some (.int l4), none, none, none] [.int s0, .ref s1] w = (am_ri 0 w l0 (l4 + (nI 2))).bind fun v => am_run 266 1261 [some (.ref l0), some (.ref l1), some (.ref l2), some (.ref l3), some (.int l4), none, none, none] (.int v :: [.int s0, .ref s1]) w := by
  refine (bu (ls'' := [some (.ref l0), some (.ref l1), some (.ref l2), some (.ref l3), some (.int l4), none, none, none]) (st' := [.ref l0, .int s0, .ref s1]) bf266_1255 bf266_1256 rfl rfl).trans ?_
  refine (bu (ls'' := [some (.ref l0), some (.ref l1), some (.ref l2), some (.ref l3), some (.int l4), none, none, none]) (st' := [.int l4, .ref l0, .int s0, .ref s1]) bf266_1256 bf266_1258 rfl rfl).trans ?_
  refine (bu (ls'' := [some (.ref l0), some (.ref l1), some (.ref l2), some (.ref l3), some (.int l4), none, none, none]) (st' := [.int (nI 2), .int l4, .ref l0, .int s0, .ref s1]) bf266_1258 bf266_1259 rfl rfl).trans ?_
  refine (bu (ls'' := [some (.ref l0), some (.ref l1), some (.ref l2), some (.ref l3), some (.int l4), none, none, none]) (st' := [.int (l4 + (nI 2)), .ref l0, .int s0, .ref s1]) bf266_1259 bf266_1260 rfl rfl).trans ?_
  exact bh bf266_1260 bf266_1261 rfl (fun _ _ => am_ge_rf w) rfl
theorem bk266_1292 {w : am_Wd} {l0 : Nat} {l1 : Nat} {l2 : Nat} {l3 : Nat} {l4 : Int32} {s0 : Int32} : am_run 266 1292 [some (.ref l0), some (.ref l1), some (.ref l2), some (.ref l3), some (.int l4), none, none, none] [.int s0] w = am_run 266 1404 [some (.ref l0), some (.ref l1), some (.ref l2), some (.ref l3), some (.int l4), none, none, none] [] w := by
  refine (bu (ls'' := [some (.ref l0), some (.ref l1), some (.ref l2), some (.ref l3), some (.int l4), none, none, none]) (st' := []) bf266_1292 bf266_1294 rfl rfl).trans ?_
  refine (bu (ls'' := [some (.ref l0), some (.ref l1), some (.ref l2), some (.ref l3), some (.int l4), none, none, none]) (st' := []) bf266_1294 bf266_1404 rfl rfl).trans ?_
  rfl
theorem bk266_1323 {w : am_Wd} {l0 : Nat} {l1 : Nat} {l2 : Nat} {l3 : Nat} {l4 : Int32} {s0 : Int32} {s1 : Nat} : am_run 266 1323 [some (.ref l0), some (.ref l1), some (.ref l2), some (.ref l3), some (.int l4), none, none, none] [.int s0, .ref s1] w = (am_ri 0 w l0 (l4 + (nI 2))).bind fun v => am_run 266 1329 [some (.ref l0), some (.ref l1), some (.ref l2), some (.ref l3), some (.int l4), none, none, none] (.int v :: [.int s0, .ref s1]) w := by
  refine (bu (ls'' := [some (.ref l0), some (.ref l1), some (.ref l2), some (.ref l3), some (.int l4), none, none, none]) (st' := [.ref l0, .int s0, .ref s1]) bf266_1323 bf266_1324 rfl rfl).trans ?_
  refine (bu (ls'' := [some (.ref l0), some (.ref l1), some (.ref l2), some (.ref l3), some (.int l4), none, none, none]) (st' := [.int l4, .ref l0, .int s0, .ref s1]) bf266_1324 bf266_1326 rfl rfl).trans ?_
  refine (bu (ls'' := [some (.ref l0), some (.ref l1), some (.ref l2), some (.ref l3), some (.int l4), none, none, none]) (st' := [.int (nI 2), .int l4, .ref l0, .int s0, .ref s1]) bf266_1326 bf266_1327 rfl rfl).trans ?_
  refine (bu (ls'' := [some (.ref l0), some (.ref l1), some (.ref l2), some (.ref l3), some (.int l4), none, none, none]) (st' := [.int (l4 + (nI 2)), .ref l0, .int s0, .ref s1]) bf266_1327 bf266_1328 rfl rfl).trans ?_
  exact bh bf266_1328 bf266_1329 rfl (fun _ _ => am_ge_rf w) rfl
theorem bk266_1363 {w : am_Wd} {l0 : Nat} {l1 : Nat} {l2 : Nat} {l3 : Nat} {l4 : Int32} {s0 : Int32} {s1 : Nat} : am_run 266 1363 [some (.ref l0), some (.ref l1), some (.ref l2), some (.ref l3), some (.int l4), none, none, none] [.int s0, .ref s1] w = (am_ri 0 w l0 (l4 + (nI 2))).bind fun v => am_run 266 1369 [some (.ref l0), some (.ref l1), some (.ref l2), some (.ref l3), some (.int l4), none, none, none] (.int v :: [.int s0, .ref s1]) w := by
  refine (bu (ls'' := [some (.ref l0), some (.ref l1), some (.ref l2), some (.ref l3), some (.int l4), none, none, none]) (st' := [.ref l0, .int s0, .ref s1]) bf266_1363 bf266_1364 rfl rfl).trans ?_
  refine (bu (ls'' := [some (.ref l0), some (.ref l1), some (.ref l2), some (.ref l3), some (.int l4), none, none, none]) (st' := [.int l4, .ref l0, .int s0, .ref s1]) bf266_1364 bf266_1366 rfl rfl).trans ?_
  refine (bu (ls'' := [some (.ref l0), some (.ref l1), some (.ref l2), some (.ref l3), some (.int l4), none, none, none]) (st' := [.int (nI 2), .int l4, .ref l0, .int s0, .ref s1]) bf266_1366 bf266_1367 rfl rfl).trans ?_
  refine (bu (ls'' := [some (.ref l0), some (.ref l1), some (.ref l2), some (.ref l3), some (.int l4), none, none, none]) (st' := [.int (l4 + (nI 2)), .ref l0, .int s0, .ref s1]) bf266_1367 bf266_1368 rfl rfl).trans ?_
  exact bh bf266_1368 bf266_1369 rfl (fun _ _ => am_ge_rf w) rfl
theorem bk266_201 {w : am_Wd} {l0 : Nat} {l1 : Nat} {l2 : Nat} {l3 : Nat} {l4 : Int32} {s0 : Int32} : am_run 266 201 [some (.ref l0), some (.ref l1), some (.ref l2), some (.ref l3), some (.int l4), none, none, none] [.int s0] w = (am_ri 0 w l0 (l4 + (nI 1))).bind fun v => am_run 266 210 [some (.ref l0), some (.ref l1), some (.ref l2), some (.ref l3), some (.int l4), none, none, none] (.int v :: [.ref l2]) w := by
  refine (bu (ls'' := [some (.ref l0), some (.ref l1), some (.ref l2), some (.ref l3), some (.int l4), none, none, none]) (st' := []) bf266_201 bf266_203 rfl rfl).trans ?_
  refine (bu (ls'' := [some (.ref l0), some (.ref l1), some (.ref l2), some (.ref l3), some (.int l4), none, none, none]) (st' := [.ref l2]) bf266_203 bf266_204 rfl rfl).trans ?_
  refine (bu (ls'' := [some (.ref l0), some (.ref l1), some (.ref l2), some (.ref l3), some (.int l4), none, none, none]) (st' := [.ref l0, .ref l2]) bf266_204 bf266_205 rfl rfl).trans ?_
  refine (bu (ls'' := [some (.ref l0), some (.ref l1), some (.ref l2), some (.ref l3), some (.int l4), none, none, none]) (st' := [.int l4, .ref l0, .ref l2]) bf266_205 bf266_207 rfl rfl).trans ?_
  refine (bu (ls'' := [some (.ref l0), some (.ref l1), some (.ref l2), some (.ref l3), some (.int l4), none, none, none]) (st' := [.int (nI 1), .int l4, .ref l0, .ref l2]) bf266_207 bf266_208 rfl rfl).trans ?_
  refine (bu (ls'' := [some (.ref l0), some (.ref l1), some (.ref l2), some (.ref l3), some (.int l4), none, none, none]) (st' := [.int (l4 + (nI 1)), .ref l0, .ref l2]) bf266_208 bf266_209 rfl rfl).trans ?_
  exact bh bf266_209 bf266_210 rfl (fun _ _ => am_ge_rf w) rfl
theorem bk266_291 {w : am_Wd} {l0 : Nat} {l1 : Nat} {l2 : Nat} {l3 : Nat} {l4 : Int32} {s0 : Int32} {s1 : Int32} {s2 : Int32} {s3 : Nat} : am_run 266 291 [some (.ref l0), some (.ref l1), some (.ref l2), some (.ref l3), some (.int l4), none, none, none] [.int s0, .int s1, .int s2, .ref s3] w = if s0 = nI 0 then am_run 266 298 [some (.ref l0), some (.ref l1), some (.ref l2), some (.ref l3), some (.int l4), none, none, none] [.int s1, .int s2, .ref s3] w else am_run 266 294 [some (.ref l0), some (.ref l1), some (.ref l2), some (.ref l3), some (.int l4), none, none, none] [.int s1, .int s2, .ref s3] w := by
  exact bifc bf266_291 rfl bf266_298 bf266_294 rfl rfl rfl
theorem bk266_380 {w : am_Wd} {l0 : Nat} {l1 : Nat} {l2 : Nat} {l3 : Nat} {l4 : Int32} {s0 : Int32} {s1 : Int32} {s2 : Int32} {s3 : Nat} : am_run 266 380 [some (.ref l0), some (.ref l1), some (.ref l2), some (.ref l3), some (.int l4), none, none, none] [.int s0, .int s1, .int s2, .ref s3] w = am_run 266 381 [some (.ref l0), some (.ref l1), some (.ref l2), some (.ref l3), some (.int l4), none, none, none] [.int (nI 0), .int s0, .int s1, .int s2, .ref s3] w := by
  refine (bu (ls'' := [some (.ref l0), some (.ref l1), some (.ref l2), some (.ref l3), some (.int l4), none, none, none]) (st' := [.int (nI 0), .int s0, .int s1, .int s2, .ref s3]) bf266_380 bf266_381 rfl rfl).trans ?_
  rfl
theorem bk266_376 {w : am_Wd} {l0 : Nat} {l1 : Nat} {l2 : Nat} {l3 : Nat} {l4 : Int32} {s0 : Int32} {s1 : Int32} {s2 : Int32} {s3 : Nat} : am_run 266 376 [some (.ref l0), some (.ref l1), some (.ref l2), some (.ref l3), some (.int l4), none, none, none] [.int s0, .int s1, .int s2, .ref s3] w = am_run 266 381 [some (.ref l0), some (.ref l1), some (.ref l2), some (.ref l3), some (.int l4), none, none, none] [.int (nI 1), .int s0, .int s1, .int s2, .ref s3] w := by
  refine (bu (ls'' := [some (.ref l0), some (.ref l1), some (.ref l2), some (.ref l3), some (.int l4), none, none, none]) (st' := [.int (nI 1), .int s0, .int s1, .int s2, .ref s3]) bf266_376 bf266_377 rfl rfl).trans ?_
  refine (bu (ls'' := [some (.ref l0), some (.ref l1), some (.ref l2), some (.ref l3), some (.int l4), none, none, none]) (st' := [.int (nI 1), .int s0, .int s1, .int s2, .ref s3]) bf266_377 bf266_381 rfl rfl).trans ?_
  rfl
theorem bk266_453 {w : am_Wd} {l0 : Nat} {l1 : Nat} {l2 : Nat} {l3 : Nat} {l4 : Int32} {s0 : Int32} : am_run 266 453 [some (.ref l0), some (.ref l1), some (.ref l2), some (.ref l3), some (.int l4), none, none, none] [.int s0] w = (am_ri 0 w l0 (l4 + (nI 1))).bind fun v => am_run 266 462 [some (.ref l0), some (.ref l1), some (.ref l2), some (.ref l3), some (.int l4), none, none, none] (.int v :: [.ref l2]) w := by
  refine (bu (ls'' := [some (.ref l0), some (.ref l1), some (.ref l2), some (.ref l3), some (.int l4), none, none, none]) (st' := []) bf266_453 bf266_455 rfl rfl).trans ?_
  refine (bu (ls'' := [some (.ref l0), some (.ref l1), some (.ref l2), some (.ref l3), some (.int l4), none, none, none]) (st' := [.ref l2]) bf266_455 bf266_456 rfl rfl).trans ?_
  refine (bu (ls'' := [some (.ref l0), some (.ref l1), some (.ref l2), some (.ref l3), some (.int l4), none, none, none]) (st' := [.ref l0, .ref l2]) bf266_456 bf266_457 rfl rfl).trans ?_
  refine (bu (ls'' := [some (.ref l0), some (.ref l1), some (.ref l2), some (.ref l3), some (.int l4), none, none, none]) (st' := [.int l4, .ref l0, .ref l2]) bf266_457 bf266_459 rfl rfl).trans ?_
  refine (bu (ls'' := [some (.ref l0), some (.ref l1), some (.ref l2), some (.ref l3), some (.int l4), none, none, none]) (st' := [.int (nI 1), .int l4, .ref l0, .ref l2]) bf266_459 bf266_460 rfl rfl).trans ?_
  refine (bu (ls'' := [some (.ref l0), some (.ref l1), some (.ref l2), some (.ref l3), some (.int l4), none, none, none]) (st' := [.int (l4 + (nI 1)), .ref l0, .ref l2]) bf266_460 bf266_461 rfl rfl).trans ?_
  exact bh bf266_461 bf266_462 rfl (fun _ _ => am_ge_rf w) rfl
theorem bk266_511 {w : am_Wd} {l0 : Nat} {l1 : Nat} {l2 : Nat} {l3 : Nat} {l4 : Int32} {s0 : Int32} {s1 : Int32} {s2 : Int32} {s3 : Nat} : am_run 266 511 [some (.ref l0), some (.ref l1), some (.ref l2), some (.ref l3), some (.int l4), none, none, none] [.int s0, .int s1, .int s2, .ref s3] w = if s0 = nI 0 then am_run 266 518 [some (.ref l0), some (.ref l1), some (.ref l2), some (.ref l3), some (.int l4), none, none, none] [.int s1, .int s2, .ref s3] w else am_run 266 514 [some (.ref l0), some (.ref l1), some (.ref l2), some (.ref l3), some (.int l4), none, none, none] [.int s1, .int s2, .ref s3] w := by
  exact bifc bf266_511 rfl bf266_518 bf266_514 rfl rfl rfl
theorem bk266_593 {w : am_Wd} {l0 : Nat} {l1 : Nat} {l2 : Nat} {l3 : Nat} {l4 : Int32} {s0 : Int32} : am_run 266 593 [some (.ref l0), some (.ref l1), some (.ref l2), some (.ref l3), some (.int l4), none, none, none] [.int s0] w = (am_ri 0 w l0 (l4 + (nI 1))).bind fun v => am_run 266 602 [some (.ref l0), some (.ref l1), some (.ref l2), some (.ref l3), some (.int l4), none, none, none] (.int v :: [.ref l2]) w := by
  refine (bu (ls'' := [some (.ref l0), some (.ref l1), some (.ref l2), some (.ref l3), some (.int l4), none, none, none]) (st' := []) bf266_593 bf266_595 rfl rfl).trans ?_
  refine (bu (ls'' := [some (.ref l0), some (.ref l1), some (.ref l2), some (.ref l3), some (.int l4), none, none, none]) (st' := [.ref l2]) bf266_595 bf266_596 rfl rfl).trans ?_
  refine (bu (ls'' := [some (.ref l0), some (.ref l1), some (.ref l2), some (.ref l3), some (.int l4), none, none, none]) (st' := [.ref l0, .ref l2]) bf266_596 bf266_597 rfl rfl).trans ?_
  refine (bu (ls'' := [some (.ref l0), some (.ref l1), some (.ref l2), some (.ref l3), some (.int l4), none, none, none]) (st' := [.int l4, .ref l0, .ref l2]) bf266_597 bf266_599 rfl rfl).trans ?_
  refine (bu (ls'' := [some (.ref l0), some (.ref l1), some (.ref l2), some (.ref l3), some (.int l4), none, none, none]) (st' := [.int (nI 1), .int l4, .ref l0, .ref l2]) bf266_599 bf266_600 rfl rfl).trans ?_
  refine (bu (ls'' := [some (.ref l0), some (.ref l1), some (.ref l2), some (.ref l3), some (.int l4), none, none, none]) (st' := [.int (l4 + (nI 1)), .ref l0, .ref l2]) bf266_600 bf266_601 rfl rfl).trans ?_
  exact bh bf266_601 bf266_602 rfl (fun _ _ => am_ge_rf w) rfl
theorem bk266_649 {w : am_Wd} {l0 : Nat} {l1 : Nat} {l2 : Nat} {l3 : Nat} {l4 : Int32} {s0 : Int32} : am_run 266 649 [some (.ref l0), some (.ref l1), some (.ref l2), some (.ref l3), some (.int l4), none, none, none] [.int s0] w = (am_ri 0 w l0 (l4 + (nI 1))).bind fun v => am_run 266 658 [some (.ref l0), some (.ref l1), some (.ref l2), some (.ref l3), some (.int l4), none, none, none] (.int v :: [.ref l2]) w := by
  refine (bu (ls'' := [some (.ref l0), some (.ref l1), some (.ref l2), some (.ref l3), some (.int l4), none, none, none]) (st' := []) bf266_649 bf266_651 rfl rfl).trans ?_
  refine (bu (ls'' := [some (.ref l0), some (.ref l1), some (.ref l2), some (.ref l3), some (.int l4), none, none, none]) (st' := [.ref l2]) bf266_651 bf266_652 rfl rfl).trans ?_
  refine (bu (ls'' := [some (.ref l0), some (.ref l1), some (.ref l2), some (.ref l3), some (.int l4), none, none, none]) (st' := [.ref l0, .ref l2]) bf266_652 bf266_653 rfl rfl).trans ?_
  refine (bu (ls'' := [some (.ref l0), some (.ref l1), some (.ref l2), some (.ref l3), some (.int l4), none, none, none]) (st' := [.int l4, .ref l0, .ref l2]) bf266_653 bf266_655 rfl rfl).trans ?_
  refine (bu (ls'' := [some (.ref l0), some (.ref l1), some (.ref l2), some (.ref l3), some (.int l4), none, none, none]) (st' := [.int (nI 1), .int l4, .ref l0, .ref l2]) bf266_655 bf266_656 rfl rfl).trans ?_
  refine (bu (ls'' := [some (.ref l0), some (.ref l1), some (.ref l2), some (.ref l3), some (.int l4), none, none, none]) (st' := [.int (l4 + (nI 1)), .ref l0, .ref l2]) bf266_656 bf266_657 rfl rfl).trans ?_
  exact bh bf266_657 bf266_658 rfl (fun _ _ => am_ge_rf w) rfl
theorem bk266_712 {w : am_Wd} {l0 : Nat} {l1 : Nat} {l2 : Nat} {l3 : Nat} {l4 : Int32} {s0 : Int32} {s1 : Int32} {s2 : Nat} : am_run 266 712 [some (.ref l0), some (.ref l1), some (.ref l2), some (.ref l3), some (.int l4), none, none, none] [.int s0, .int s1, .ref s2] w = (am_kf w s2 11).bind fun _ => (am_x 178 [.ref s2, .int s1, .int s0] w).bind fun r => bct r fun v w' => am_run 266 715 [some (.ref l0), some (.ref l1), some (.ref l2), some (.ref l3), some (.int l4), none, none, none] (v.toList ++ []) w' := by
  exact bkV bf266_712 bf266_715 rfl (by decide +kernel) (Nat.le_of_ble_eq_true rfl) rfl (bhd rfl)
theorem bk266_780 {w : am_Wd} {l0 : Nat} {l1 : Nat} {l2 : Nat} {l3 : Nat} {l4 : Int32} {s0 : Int32} {s1 : Int32} {s2 : Nat} : am_run 266 780 [some (.ref l0), some (.ref l1), some (.ref l2), some (.ref l3), some (.int l4), none, none, none] [.int s0, .int s1, .ref s2] w = (am_kf w s2 11).bind fun _ => (am_x 180 [.ref s2, .int s1, .int s0] w).bind fun r => bct r fun v w' => am_run 266 783 [some (.ref l0), some (.ref l1), some (.ref l2), some (.ref l3), some (.int l4), none, none, none] (v.toList ++ []) w' := by
  exact bkV bf266_780 bf266_783 rfl (by decide +kernel) (Nat.le_of_ble_eq_true rfl) rfl (bhd rfl)
theorem bk266_861 {w : am_Wd} {l0 : Nat} {l1 : Nat} {l2 : Nat} {l3 : Nat} {l4 : Int32} {s0 : Int32} {s1 : Nat} : am_run 266 861 [some (.ref l0), some (.ref l1), some (.ref l2), some (.ref l3), some (.int l4), none, none, none] [.int s0, .ref s1] w = (am_ri 0 w l0 (l4 + (nI 2))).bind fun v => am_run 266 867 [some (.ref l0), some (.ref l1), some (.ref l2), some (.ref l3), some (.int l4), none, none, none] (.int v :: [.int s0, .ref s1]) w := by
  refine (bu (ls'' := [some (.ref l0), some (.ref l1), some (.ref l2), some (.ref l3), some (.int l4), none, none, none]) (st' := [.ref l0, .int s0, .ref s1]) bf266_861 bf266_862 rfl rfl).trans ?_
  refine (bu (ls'' := [some (.ref l0), some (.ref l1), some (.ref l2), some (.ref l3), some (.int l4), none, none, none]) (st' := [.int l4, .ref l0, .int s0, .ref s1]) bf266_862 bf266_864 rfl rfl).trans ?_
  refine (bu (ls'' := [some (.ref l0), some (.ref l1), some (.ref l2), some (.ref l3), some (.int l4), none, none, none]) (st' := [.int (nI 2), .int l4, .ref l0, .int s0, .ref s1]) bf266_864 bf266_865 rfl rfl).trans ?_
  refine (bu (ls'' := [some (.ref l0), some (.ref l1), some (.ref l2), some (.ref l3), some (.int l4), none, none, none]) (st' := [.int (l4 + (nI 2)), .ref l0, .int s0, .ref s1]) bf266_865 bf266_866 rfl rfl).trans ?_
  exact bh bf266_866 bf266_867 rfl (fun _ _ => am_ge_rf w) rfl
theorem bk266_913 {w : am_Wd} {l0 : Nat} {l1 : Nat} {l2 : Nat} {l3 : Nat} {l4 : Int32} {s0 : Int32} {s1 : Int32} {s2 : Nat} : am_run 266 913 [some (.ref l0), some (.ref l1), some (.ref l2), some (.ref l3), some (.int l4), none, none, none] [.int s0, .int s1, .ref s2] w = (am_kf w s2 11).bind fun _ => (am_x 182 [.ref s2, .int s1, .int s0] w).bind fun r => bct r fun v w' => am_run 266 916 [some (.ref l0), some (.ref l1), some (.ref l2), some (.ref l3), some (.int l4), none, none, none] (v.toList ++ []) w' := by
  exact bkV bf266_913 bf266_916 rfl (by decide +kernel) (Nat.le_of_ble_eq_true rfl) rfl (bhd rfl)
theorem bk266_1009 {w : am_Wd} {l0 : Nat} {l1 : Nat} {l2 : Nat} {l3 : Nat} {l4 : Int32} {s0 : Int32} {s1 : Nat} : am_run 266 1009 [some (.ref l0), some (.ref l1), some (.ref l2), some (.ref l3), some (.int l4), none, none, none] [.int s0, .ref s1] w = (am_ri 0 w l0 (l4 + (nI 2))).bind fun v => am_run 266 1015 [some (.ref l0), some (.ref l1), some (.ref l2), some (.ref l3), some (.int l4), none, none, none] (.int v :: [.int s0, .ref s1]) w := by
  refine (bu (ls'' := [some (.ref l0), some (.ref l1), some (.ref l2), some (.ref l3), some (.int l4), none, none, none]) (st' := [.ref l0, .int s0, .ref s1]) bf266_1009 bf266_1010 rfl rfl).trans ?_
  refine (bu (ls'' := [some (.ref l0), some (.ref l1), some (.ref l2), some (.ref l3), some (.int l4), none, none, none]) (st' := [.int l4, .ref l0, .int s0, .ref s1]) bf266_1010 bf266_1012 rfl rfl).trans ?_
  refine (bu (ls'' := [some (.ref l0), some (.ref l1), some (.ref l2), some (.ref l3), some (.int l4), none, none, none]) (st' := [.int (nI 2), .int l4, .ref l0, .int s0, .ref s1]) bf266_1012 bf266_1013 rfl rfl).trans ?_
  refine (bu (ls'' := [some (.ref l0), some (.ref l1), some (.ref l2), some (.ref l3), some (.int l4), none, none, none]) (st' := [.int (l4 + (nI 2)), .ref l0, .int s0, .ref s1]) bf266_1013 bf266_1014 rfl rfl).trans ?_
  exact bh bf266_1014 bf266_1015 rfl (fun _ _ => am_ge_rf w) rfl
theorem bk266_1061 {w : am_Wd} {l0 : Nat} {l1 : Nat} {l2 : Nat} {l3 : Nat} {l4 : Int32} {s0 : Int32} {s1 : Int32} {s2 : Nat} : am_run 266 1061 [some (.ref l0), some (.ref l1), some (.ref l2), some (.ref l3), some (.int l4), none, none, none] [.int s0, .int s1, .ref s2] w = (am_kf w s2 11).bind fun _ => (am_x 183 [.ref s2, .int s1, .int s0] w).bind fun r => bct r fun v w' => am_run 266 1064 [some (.ref l0), some (.ref l1), some (.ref l2), some (.ref l3), some (.int l4), none, none, none] (v.toList ++ []) w' := by
  exact bkV bf266_1061 bf266_1064 rfl (by decide +kernel) (Nat.le_of_ble_eq_true rfl) rfl (bhd rfl)
theorem bk266_1101 {w : am_Wd} {l0 : Nat} {l1 : Nat} {l2 : Nat} {l3 : Nat} {l4 : Int32} {s0 : Int32} {s1 : Int32} {s2 : Nat} : am_run 266 1101 [some (.ref l0), some (.ref l1), some (.ref l2), some (.ref l3), some (.int l4), none, none, none] [.int s0, .int s1, .ref s2] w = (am_kf w s2 11).bind fun _ => (am_x 184 [.ref s2, .int s1, .int s0] w).bind fun r => bct r fun v w' => am_run 266 1104 [some (.ref l0), some (.ref l1), some (.ref l2), some (.ref l3), some (.int l4), none, none, none] (v.toList ++ []) w' := by
  exact bkV bf266_1101 bf266_1104 rfl (by decide +kernel) (Nat.le_of_ble_eq_true rfl) rfl (bhd rfl)
theorem bk266_1141 {w : am_Wd} {l0 : Nat} {l1 : Nat} {l2 : Nat} {l3 : Nat} {l4 : Int32} {s0 : Int32} {s1 : Nat} : am_run 266 1141 [some (.ref l0), some (.ref l1), some (.ref l2), some (.ref l3), some (.int l4), none, none, none] [.int s0, .ref s1] w = (am_ri 0 w l0 (l4 + (nI 2))).bind fun v => am_run 266 1147 [some (.ref l0), some (.ref l1), some (.ref l2), some (.ref l3), some (.int l4), none, none, none] (.int v :: [.int s0, .ref s1]) w := by
  refine (bu (ls'' := [some (.ref l0), some (.ref l1), some (.ref l2), some (.ref l3), some (.int l4), none, none, none]) (st' := [.ref l0, .int s0, .ref s1]) bf266_1141 bf266_1142 rfl rfl).trans ?_
  refine (bu (ls'' := [some (.ref l0), some (.ref l1), some (.ref l2), some (.ref l3), some (.int l4), none, none, none]) (st' := [.int l4, .ref l0, .int s0, .ref s1]) bf266_1142 bf266_1144 rfl rfl).trans ?_
  refine (bu (ls'' := [some (.ref l0), some (.ref l1), some (.ref l2), some (.ref l3), some (.int l4), none, none, none]) (st' := [.int (nI 2), .int l4, .ref l0, .int s0, .ref s1]) bf266_1144 bf266_1145 rfl rfl).trans ?_
  refine (bu (ls'' := [some (.ref l0), some (.ref l1), some (.ref l2), some (.ref l3), some (.int l4), none, none, none]) (st' := [.int (l4 + (nI 2)), .ref l0, .int s0, .ref s1]) bf266_1145 bf266_1146 rfl rfl).trans ?_
  exact bh bf266_1146 bf266_1147 rfl (fun _ _ => am_ge_rf w) rfl
theorem bk266_1193 {w : am_Wd} {l0 : Nat} {l1 : Nat} {l2 : Nat} {l3 : Nat} {l4 : Int32} {s0 : Int32} {s1 : Int32} {s2 : Nat} : am_run 266 1193 [some (.ref l0), some (.ref l1), some (.ref l2), some (.ref l3), some (.int l4), none, none, none] [.int s0, .int s1, .ref s2] w = (am_kf w s2 11).bind fun _ => (am_x 264 [.ref s2, .int s1, .int s0] w).bind fun r => bct r fun v w' => am_run 266 1196 [some (.ref l0), some (.ref l1), some (.ref l2), some (.ref l3), some (.int l4), none, none, none] (v.toList ++ []) w' := by
  exact bkV bf266_1193 bf266_1196 rfl (by decide +kernel) (Nat.le_of_ble_eq_true rfl) rfl (bhd rfl)
theorem bk266_1261 {w : am_Wd} {l0 : Nat} {l1 : Nat} {l2 : Nat} {l3 : Nat} {l4 : Int32} {s0 : Int32} {s1 : Int32} {s2 : Nat} : am_run 266 1261 [some (.ref l0), some (.ref l1), some (.ref l2), some (.ref l3), some (.int l4), none, none, none] [.int s0, .int s1, .ref s2] w = (am_kf w s2 11).bind fun _ => (am_x 247 [.ref s2, .int s1, .int s0] w).bind fun r => bct r fun v w' => am_run 266 1264 [some (.ref l0), some (.ref l1), some (.ref l2), some (.ref l3), some (.int l4), none, none, none] (v.toList ++ []) w' := by
  exact bkV bf266_1261 bf266_1264 rfl (by decide +kernel) (Nat.le_of_ble_eq_true rfl) rfl (bhd rfl)
theorem bk266_1329 {w : am_Wd} {l0 : Nat} {l1 : Nat} {l2 : Nat} {l3 : Nat} {l4 : Int32} {s0 : Int32} {s1 : Int32} {s2 : Nat} : am_run 266 1329 [some (.ref l0), some (.ref l1), some (.ref l2), some (.ref l3), some (.int l4), none, none, none] [.int s0, .int s1, .ref s2] w = (am_kf w s2 11).bind fun _ => (am_x 231 [.ref s2, .int s1, .int s0] w).bind fun r => bct r fun v w' => am_run 266 1332 [some (.ref l0), some (.ref l1), some (.ref l2), some (.ref l3), some (.int l4), none, none, none] (v.toList ++ []) w' := by
  exact bkV bf266_1329 bf266_1332 rfl (by decide +kernel) (Nat.le_of_ble_eq_true rfl) rfl (bhd rfl)
theorem bk266_1369 {w : am_Wd} {l0 : Nat} {l1 : Nat} {l2 : Nat} {l3 : Nat} {l4 : Int32} {s0 : Int32} {s1 : Int32} {s2 : Nat} : am_run 266 1369 [some (.ref l0), some (.ref l1), some (.ref l2), some (.ref l3), some (.int l4), none, none, none] [.int s0, .int s1, .ref s2] w = (am_kf w s2 11).bind fun _ => (am_x 232 [.ref s2, .int s1, .int s0] w).bind fun r => bct r fun v w' => am_run 266 1372 [some (.ref l0), some (.ref l1), some (.ref l2), some (.ref l3), some (.int l4), none, none, none] (v.toList ++ []) w' := by
  exact bkV bf266_1369 bf266_1372 rfl (by decide +kernel) (Nat.le_of_ble_eq_true rfl) rfl (bhd rfl)
theorem bk266_210 {w : am_Wd} {l0 : Nat} {l1 : Nat} {l2 : Nat} {l3 : Nat} {l4 : Int32} {s0 : Int32} {s1 : Nat} : am_run 266 210 [some (.ref l0), some (.ref l1), some (.ref l2), some (.ref l3), some (.int l4), none, none, none] [.int s0, .ref s1] w = (am_ri 0 w l0 (l4 + (nI 2))).bind fun v => am_run 266 216 [some (.ref l0), some (.ref l1), some (.ref l2), some (.ref l3), some (.int l4), none, none, none] (.int v :: [.int s0, .ref s1]) w := by
  refine (bu (ls'' := [some (.ref l0), some (.ref l1), some (.ref l2), some (.ref l3), some (.int l4), none, none, none]) (st' := [.ref l0, .int s0, .ref s1]) bf266_210 bf266_211 rfl rfl).trans ?_
  refine (bu (ls'' := [some (.ref l0), some (.ref l1), some (.ref l2), some (.ref l3), some (.int l4), none, none, none]) (st' := [.int l4, .ref l0, .int s0, .ref s1]) bf266_211 bf266_213 rfl rfl).trans ?_
  refine (bu (ls'' := [some (.ref l0), some (.ref l1), some (.ref l2), some (.ref l3), some (.int l4), none, none, none]) (st' := [.int (nI 2), .int l4, .ref l0, .int s0, .ref s1]) bf266_213 bf266_214 rfl rfl).trans ?_
  refine (bu (ls'' := [some (.ref l0), some (.ref l1), some (.ref l2), some (.ref l3), some (.int l4), none, none, none]) (st' := [.int (l4 + (nI 2)), .ref l0, .int s0, .ref s1]) bf266_214 bf266_215 rfl rfl).trans ?_
  exact bh bf266_215 bf266_216 rfl (fun _ _ => am_ge_rf w) rfl
theorem bk266_298 {w : am_Wd} {l0 : Nat} {l1 : Nat} {l2 : Nat} {l3 : Nat} {l4 : Int32} {s0 : Int32} {s1 : Int32} {s2 : Nat} : am_run 266 298 [some (.ref l0), some (.ref l1), some (.ref l2), some (.ref l3), some (.int l4), none, none, none] [.int s0, .int s1, .ref s2] w = am_run 266 299 [some (.ref l0), some (.ref l1), some (.ref l2), some (.ref l3), some (.int l4), none, none, none] [.int (nI 0), .int s0, .int s1, .ref s2] w := by
  refine (bu (ls'' := [some (.ref l0), some (.ref l1), some (.ref l2), some (.ref l3), some (.int l4), none, none, none]) (st' := [.int (nI 0), .int s0, .int s1, .ref s2]) bf266_298 bf266_299 rfl rfl).trans ?_
  rfl
theorem bk266_294 {w : am_Wd} {l0 : Nat} {l1 : Nat} {l2 : Nat} {l3 : Nat} {l4 : Int32} {s0 : Int32} {s1 : Int32} {s2 : Nat} : am_run 266 294 [some (.ref l0), some (.ref l1), some (.ref l2), some (.ref l3), some (.int l4), none, none, none] [.int s0, .int s1, .ref s2] w = am_run 266 299 [some (.ref l0), some (.ref l1), some (.ref l2), some (.ref l3), some (.int l4), none, none, none] [.int (nI 1), .int s0, .int s1, .ref s2] w := by
  refine (bu (ls'' := [some (.ref l0), some (.ref l1), some (.ref l2), some (.ref l3), some (.int l4), none, none, none]) (st' := [.int (nI 1), .int s0, .int s1, .ref s2]) bf266_294 bf266_295 rfl rfl).trans ?_
  refine (bu (ls'' := [some (.ref l0), some (.ref l1), some (.ref l2), some (.ref l3), some (.int l4), none, none, none]) (st' := [.int (nI 1), .int s0, .int s1, .ref s2]) bf266_295 bf266_299 rfl rfl).trans ?_
  rfl
theorem bk266_381 {w : am_Wd} {l0 : Nat} {l1 : Nat} {l2 : Nat} {l3 : Nat} {l4 : Int32} {s0 : Int32} {s1 : Int32} {s2 : Int32} {s3 : Int32} {s4 : Nat} : am_run 266 381 [some (.ref l0), some (.ref l1), some (.ref l2), some (.ref l3), some (.int l4), none, none, none] [.int s0, .int s1, .int s2, .int s3, .ref s4] w = (am_x 217 [.ref s4, .int s3, .int s2, .int s1, .int s0, .ref l3] w).bind fun r => bct r fun v w' => am_run 266 385 [some (.ref l0), some (.ref l1), some (.ref l2), some (.ref l3), some (.int l4), none, none, none] (v.toList ++ []) w' := by
  refine (bu (ls'' := [some (.ref l0), some (.ref l1), some (.ref l2), some (.ref l3), some (.int l4), none, none, none]) (st' := [.ref l3, .int s0, .int s1, .int s2, .int s3, .ref s4]) bf266_381 bf266_382 rfl rfl).trans ?_
  exact bkS bf266_382 bf266_385 rfl (by decide +kernel) (Nat.le_of_ble_eq_true rfl) rfl (bhd rfl)
theorem bk266_462 {w : am_Wd} {l0 : Nat} {l1 : Nat} {l2 : Nat} {l3 : Nat} {l4 : Int32} {s0 : Int32} {s1 : Nat} : am_run 266 462 [some (.ref l0), some (.ref l1), some (.ref l2), some (.ref l3), some (.int l4), none, none, none] [.int s0, .ref s1] w = (am_ri 0 w l0 (l4 + (nI 2))).bind fun v => am_run 266 468 [some (.ref l0), some (.ref l1), some (.ref l2), some (.ref l3), some (.int l4), none, none, none] (.int v :: [.int s0, .ref s1]) w := by
  refine (bu (ls'' := [some (.ref l0), some (.ref l1), some (.ref l2), some (.ref l3), some (.int l4), none, none, none]) (st' := [.ref l0, .int s0, .ref s1]) bf266_462 bf266_463 rfl rfl).trans ?_
  refine (bu (ls'' := [some (.ref l0), some (.ref l1), some (.ref l2), some (.ref l3), some (.int l4), none, none, none]) (st' := [.int l4, .ref l0, .int s0, .ref s1]) bf266_463 bf266_465 rfl rfl).trans ?_
  refine (bu (ls'' := [some (.ref l0), some (.ref l1), some (.ref l2), some (.ref l3), some (.int l4), none, none, none]) (st' := [.int (nI 2), .int l4, .ref l0, .int s0, .ref s1]) bf266_465 bf266_466 rfl rfl).trans ?_
  refine (bu (ls'' := [some (.ref l0), some (.ref l1), some (.ref l2), some (.ref l3), some (.int l4), none, none, none]) (st' := [.int (l4 + (nI 2)), .ref l0, .int s0, .ref s1]) bf266_466 bf266_467 rfl rfl).trans ?_
  exact bh bf266_467 bf266_468 rfl (fun _ _ => am_ge_rf w) rfl
theorem bk266_518 {w : am_Wd} {l0 : Nat} {l1 : Nat} {l2 : Nat} {l3 : Nat} {l4 : Int32} {s0 : Int32} {s1 : Int32} {s2 : Nat} : am_run 266 518 [some (.ref l0), some (.ref l1), some (.ref l2), some (.ref l3), some (.int l4), none, none, none] [.int s0, .int s1, .ref s2] w = am_run 266 519 [some (.ref l0), some (.ref l1), some (.ref l2), some (.ref l3), some (.int l4), none, none, none] [.int (nI 0), .int s0, .int s1, .ref s2] w := by
  refine (bu (ls'' := [some (.ref l0), some (.ref l1), some (.ref l2), some (.ref l3), some (.int l4), none, none, none]) (st' := [.int (nI 0), .int s0, .int s1, .ref s2]) bf266_518 bf266_519 rfl rfl).trans ?_
  rfl
theorem bk266_514 {w : am_Wd} {l0 : Nat} {l1 : Nat} {l2 : Nat} {l3 : Nat} {l4 : Int32} {s0 : Int32} {s1 : Int32} {s2 : Nat} : am_run 266 514 [some (.ref l0), some (.ref l1), some (.ref l2), some (.ref l3), some (.int l4), none, none, none] [.int s0, .int s1, .ref s2] w = am_run 266 519 [some (.ref l0), some (.ref l1), some (.ref l2), some (.ref l3), some (.int l4), none, none, none] [.int (nI 1), .int s0, .int s1, .ref s2] w := by
  refine (bu (ls'' := [some (.ref l0), some (.ref l1), some (.ref l2), some (.ref l3), some (.int l4), none, none, none]) (st' := [.int (nI 1), .int s0, .int s1, .ref s2]) bf266_514 bf266_515 rfl rfl).trans ?_
  refine (bu (ls'' := [some (.ref l0), some (.ref l1), some (.ref l2), some (.ref l3), some (.int l4), none, none, none]) (st' := [.int (nI 1), .int s0, .int s1, .ref s2]) bf266_515 bf266_519 rfl rfl).trans ?_
  rfl
theorem bk266_602 {w : am_Wd} {l0 : Nat} {l1 : Nat} {l2 : Nat} {l3 : Nat} {l4 : Int32} {s0 : Int32} {s1 : Nat} : am_run 266 602 [some (.ref l0), some (.ref l1), some (.ref l2), some (.ref l3), some (.int l4), none, none, none] [.int s0, .ref s1] w = (am_ri 0 w l0 (l4 + (nI 2))).bind fun v => am_run 266 608 [some (.ref l0), some (.ref l1), some (.ref l2), some (.ref l3), some (.int l4), none, none, none] (.int v :: [.int s0, .ref s1]) w := by
  refine (bu (ls'' := [some (.ref l0), some (.ref l1), some (.ref l2), some (.ref l3), some (.int l4), none, none, none]) (st' := [.ref l0, .int s0, .ref s1]) bf266_602 bf266_603 rfl rfl).trans ?_
  refine (bu (ls'' := [some (.ref l0), some (.ref l1), some (.ref l2), some (.ref l3), some (.int l4), none, none, none]) (st' := [.int l4, .ref l0, .int s0, .ref s1]) bf266_603 bf266_605 rfl rfl).trans ?_
  refine (bu (ls'' := [some (.ref l0), some (.ref l1), some (.ref l2), some (.ref l3), some (.int l4), none, none, none]) (st' := [.int (nI 2), .int l4, .ref l0, .int s0, .ref s1]) bf266_605 bf266_606 rfl rfl).trans ?_
  refine (bu (ls'' := [some (.ref l0), some (.ref l1), some (.ref l2), some (.ref l3), some (.int l4), none, none, none]) (st' := [.int (l4 + (nI 2)), .ref l0, .int s0, .ref s1]) bf266_606 bf266_607 rfl rfl).trans ?_
  exact bh bf266_607 bf266_608 rfl (fun _ _ => am_ge_rf w) rfl
theorem bk266_658 {w : am_Wd} {l0 : Nat} {l1 : Nat} {l2 : Nat} {l3 : Nat} {l4 : Int32} {s0 : Int32} {s1 : Nat} : am_run 266 658 [some (.ref l0), some (.ref l1), some (.ref l2), some (.ref l3), some (.int l4), none, none, none] [.int s0, .ref s1] w = (am_ri 0 w l0 (l4 + (nI 2))).bind fun v => am_run 266 664 [some (.ref l0), some (.ref l1), some (.ref l2), some (.ref l3), some (.int l4), none, none, none] (.int v :: [.int s0, .ref s1]) w := by
  refine (bu (ls'' := [some (.ref l0), some (.ref l1), some (.ref l2), some (.ref l3), some (.int l4), none, none, none]) (st' := [.ref l0, .int s0, .ref s1]) bf266_658 bf266_659 rfl rfl).trans ?_
  refine (bu (ls'' := [some (.ref l0), some (.ref l1), some (.ref l2), some (.ref l3), some (.int l4), none, none, none]) (st' := [.int l4, .ref l0, .int s0, .ref s1]) bf266_659 bf266_661 rfl rfl).trans ?_
  refine (bu (ls'' := [some (.ref l0), some (.ref l1), some (.ref l2), some (.ref l3), some (.int l4), none, none, none]) (st' := [.int (nI 2), .int l4, .ref l0, .int s0, .ref s1]) bf266_661 bf266_662 rfl rfl).trans ?_
  refine (bu (ls'' := [some (.ref l0), some (.ref l1), some (.ref l2), some (.ref l3), some (.int l4), none, none, none]) (st' := [.int (l4 + (nI 2)), .ref l0, .int s0, .ref s1]) bf266_662 bf266_663 rfl rfl).trans ?_
  exact bh bf266_663 bf266_664 rfl (fun _ _ => am_ge_rf w) rfl
theorem bk266_715 {w : am_Wd} {l0 : Nat} {l1 : Nat} {l2 : Nat} {l3 : Nat} {l4 : Int32} {s0 : Int32} : am_run 266 715 [some (.ref l0), some (.ref l1), some (.ref l2), some (.ref l3), some (.int l4), none, none, none] [.int s0] w = am_run 266 1404 [some (.ref l0), some (.ref l1), some (.ref l2), some (.ref l3), some (.int l4), none, none, none] [] w := by
  refine (bu (ls'' := [some (.ref l0), some (.ref l1), some (.ref l2), some (.ref l3), some (.int l4), none, none, none]) (st' := []) bf266_715 bf266_717 rfl rfl).trans ?_
  refine (bu (ls'' := [some (.ref l0), some (.ref l1), some (.ref l2), some (.ref l3), some (.int l4), none, none, none]) (st' := []) bf266_717 bf266_1404 rfl rfl).trans ?_
  rfl
theorem bk266_783 {w : am_Wd} {l0 : Nat} {l1 : Nat} {l2 : Nat} {l3 : Nat} {l4 : Int32} {s0 : Int32} : am_run 266 783 [some (.ref l0), some (.ref l1), some (.ref l2), some (.ref l3), some (.int l4), none, none, none] [.int s0] w = am_run 266 1404 [some (.ref l0), some (.ref l1), some (.ref l2), some (.ref l3), some (.int l4), none, none, none] [] w := by
  refine (bu (ls'' := [some (.ref l0), some (.ref l1), some (.ref l2), some (.ref l3), some (.int l4), none, none, none]) (st' := []) bf266_783 bf266_785 rfl rfl).trans ?_
  refine (bu (ls'' := [some (.ref l0), some (.ref l1), some (.ref l2), some (.ref l3), some (.int l4), none, none, none]) (st' := []) bf266_785 bf266_1404 rfl rfl).trans ?_
  rfl
theorem bk266_867 {w : am_Wd} {l0 : Nat} {l1 : Nat} {l2 : Nat} {l3 : Nat} {l4 : Int32} {s0 : Int32} {s1 : Int32} {s2 : Nat} : am_run 266 867 [some (.ref l0), some (.ref l1), some (.ref l2), some (.ref l3), some (.int l4), none, none, none] [.int s0, .int s1, .ref s2] w = (am_ri 0 w l0 (l4 + (nI 3))).bind fun v => am_run 266 873 [some (.ref l0), some (.ref l1), some (.ref l2), some (.ref l3), some (.int l4), none, none, none] (.int v :: [.int s0, .int s1, .ref s2]) w := by
  refine (bu (ls'' := [some (.ref l0), some (.ref l1), some (.ref l2), some (.ref l3), some (.int l4), none, none, none]) (st' := [.ref l0, .int s0, .int s1, .ref s2]) bf266_867 bf266_868 rfl rfl).trans ?_
  refine (bu (ls'' := [some (.ref l0), some (.ref l1), some (.ref l2), some (.ref l3), some (.int l4), none, none, none]) (st' := [.int l4, .ref l0, .int s0, .int s1, .ref s2]) bf266_868 bf266_870 rfl rfl).trans ?_
  refine (bu (ls'' := [some (.ref l0), some (.ref l1), some (.ref l2), some (.ref l3), some (.int l4), none, none, none]) (st' := [.int (nI 3), .int l4, .ref l0, .int s0, .int s1, .ref s2]) bf266_870 bf266_871 rfl rfl).trans ?_
  refine (bu (ls'' := [some (.ref l0), some (.ref l1), some (.ref l2), some (.ref l3), some (.int l4), none, none, none]) (st' := [.int (l4 + (nI 3)), .ref l0, .int s0, .int s1, .ref s2]) bf266_871 bf266_872 rfl rfl).trans ?_
  exact bh bf266_872 bf266_873 rfl (fun _ _ => am_ge_rf w) rfl
theorem bk266_916 {w : am_Wd} {l0 : Nat} {l1 : Nat} {l2 : Nat} {l3 : Nat} {l4 : Int32} {s0 : Int32} : am_run 266 916 [some (.ref l0), some (.ref l1), some (.ref l2), some (.ref l3), some (.int l4), none, none, none] [.int s0] w = am_run 266 1404 [some (.ref l0), some (.ref l1), some (.ref l2), some (.ref l3), some (.int l4), none, none, none] [] w := by
  refine (bu (ls'' := [some (.ref l0), some (.ref l1), some (.ref l2), some (.ref l3), some (.int l4), none, none, none]) (st' := []) bf266_916 bf266_918 rfl rfl).trans ?_
  refine (bu (ls'' := [some (.ref l0), some (.ref l1), some (.ref l2), some (.ref l3), some (.int l4), none, none, none]) (st' := []) bf266_918 bf266_1404 rfl rfl).trans ?_
  rfl
theorem bk266_1015 {w : am_Wd} {l0 : Nat} {l1 : Nat} {l2 : Nat} {l3 : Nat} {l4 : Int32} {s0 : Int32} {s1 : Int32} {s2 : Nat} : am_run 266 1015 [some (.ref l0), some (.ref l1), some (.ref l2), some (.ref l3), some (.int l4), none, none, none] [.int s0, .int s1, .ref s2] w = (am_ri 0 w l0 (l4 + (nI 3))).bind fun v => am_run 266 1021 [some (.ref l0), some (.ref l1), some (.ref l2), some (.ref l3), some (.int l4), none, none, none] (.int v :: [.int s0, .int s1, .ref s2]) w := by
  refine (bu (ls'' := [some (.ref l0), some (.ref l1), some (.ref l2), some (.ref l3), some (.int l4), none, none, none]) (st' := [.ref l0, .int s0, .int s1, .ref s2]) bf266_1015 bf266_1016 rfl rfl).trans ?_
  refine (bu (ls'' := [some (.ref l0), some (.ref l1), some (.ref l2), some (.ref l3), some (.int l4), none, none, none]) (st' := [.int l4, .ref l0, .int s0, .int s1, .ref s2]) bf266_1016 bf266_1018 rfl rfl).trans ?_
  refine (bu (ls'' := [some (.ref l0), some (.ref l1), some (.ref l2), some (.ref l3), some (.int l4), none, none, none]) (st' := [.int (nI 3), .int l4, .ref l0, .int s0, .int s1, .ref s2]) bf266_1018 bf266_1019 rfl rfl).trans ?_
  refine (bu (ls'' := [some (.ref l0), some (.ref l1), some (.ref l2), some (.ref l3), some (.int l4), none, none, none]) (st' := [.int (l4 + (nI 3)), .ref l0, .int s0, .int s1, .ref s2]) bf266_1019 bf266_1020 rfl rfl).trans ?_
  exact bh bf266_1020 bf266_1021 rfl (fun _ _ => am_ge_rf w) rfl
theorem bk266_1064 {w : am_Wd} {l0 : Nat} {l1 : Nat} {l2 : Nat} {l3 : Nat} {l4 : Int32} {s0 : Int32} : am_run 266 1064 [some (.ref l0), some (.ref l1), some (.ref l2), some (.ref l3), some (.int l4), none, none, none] [.int s0] w = am_run 266 1404 [some (.ref l0), some (.ref l1), some (.ref l2), some (.ref l3), some (.int l4), none, none, none] [] w := by
  refine (bu (ls'' := [some (.ref l0), some (.ref l1), some (.ref l2), some (.ref l3), some (.int l4), none, none, none]) (st' := []) bf266_1064 bf266_1066 rfl rfl).trans ?_
  refine (bu (ls'' := [some (.ref l0), some (.ref l1), some (.ref l2), some (.ref l3), some (.int l4), none, none, none]) (st' := []) bf266_1066 bf266_1404 rfl rfl).trans ?_
  rfl
theorem bk266_1104 {w : am_Wd} {l0 : Nat} {l1 : Nat} {l2 : Nat} {l3 : Nat} {l4 : Int32} {s0 : Int64} : am_run 266 1104 [some (.ref l0), some (.ref l1), some (.ref l2), some (.ref l3), some (.int l4), none, none, none] [.long s0] w = am_run 266 1404 [some (.ref l0), some (.ref l1), some (.ref l2), some (.ref l3), some (.int l4), none, none, none] [] w := by
  refine (bu (ls'' := [some (.ref l0), some (.ref l1), some (.ref l2), some (.ref l3), some (.int l4), none, none, none]) (st' := []) bf266_1104 bf266_1106 rfl rfl).trans ?_
  refine (bu (ls'' := [some (.ref l0), some (.ref l1), some (.ref l2), some (.ref l3), some (.int l4), none, none, none]) (st' := []) bf266_1106 bf266_1404 rfl rfl).trans ?_
  rfl
theorem bk266_1147 {w : am_Wd} {l0 : Nat} {l1 : Nat} {l2 : Nat} {l3 : Nat} {l4 : Int32} {s0 : Int32} {s1 : Int32} {s2 : Nat} : am_run 266 1147 [some (.ref l0), some (.ref l1), some (.ref l2), some (.ref l3), some (.int l4), none, none, none] [.int s0, .int s1, .ref s2] w = (am_ri 0 w l0 (l4 + (nI 3))).bind fun v => am_run 266 1153 [some (.ref l0), some (.ref l1), some (.ref l2), some (.ref l3), some (.int l4), none, none, none] (.int v :: [.int s0, .int s1, .ref s2]) w := by
  refine (bu (ls'' := [some (.ref l0), some (.ref l1), some (.ref l2), some (.ref l3), some (.int l4), none, none, none]) (st' := [.ref l0, .int s0, .int s1, .ref s2]) bf266_1147 bf266_1148 rfl rfl).trans ?_
  refine (bu (ls'' := [some (.ref l0), some (.ref l1), some (.ref l2), some (.ref l3), some (.int l4), none, none, none]) (st' := [.int l4, .ref l0, .int s0, .int s1, .ref s2]) bf266_1148 bf266_1150 rfl rfl).trans ?_
  refine (bu (ls'' := [some (.ref l0), some (.ref l1), some (.ref l2), some (.ref l3), some (.int l4), none, none, none]) (st' := [.int (nI 3), .int l4, .ref l0, .int s0, .int s1, .ref s2]) bf266_1150 bf266_1151 rfl rfl).trans ?_
  refine (bu (ls'' := [some (.ref l0), some (.ref l1), some (.ref l2), some (.ref l3), some (.int l4), none, none, none]) (st' := [.int (l4 + (nI 3)), .ref l0, .int s0, .int s1, .ref s2]) bf266_1151 bf266_1152 rfl rfl).trans ?_
  exact bh bf266_1152 bf266_1153 rfl (fun _ _ => am_ge_rf w) rfl
theorem bk266_1196 {w : am_Wd} {l0 : Nat} {l1 : Nat} {l2 : Nat} {l3 : Nat} {l4 : Int32} {s0 : Int32} : am_run 266 1196 [some (.ref l0), some (.ref l1), some (.ref l2), some (.ref l3), some (.int l4), none, none, none] [.int s0] w = am_run 266 1404 [some (.ref l0), some (.ref l1), some (.ref l2), some (.ref l3), some (.int l4), none, none, none] [] w := by
  refine (bu (ls'' := [some (.ref l0), some (.ref l1), some (.ref l2), some (.ref l3), some (.int l4), none, none, none]) (st' := []) bf266_1196 bf266_1198 rfl rfl).trans ?_
  refine (bu (ls'' := [some (.ref l0), some (.ref l1), some (.ref l2), some (.ref l3), some (.int l4), none, none, none]) (st' := []) bf266_1198 bf266_1404 rfl rfl).trans ?_
  rfl
theorem bk266_1264 {w : am_Wd} {l0 : Nat} {l1 : Nat} {l2 : Nat} {l3 : Nat} {l4 : Int32} {s0 : Int32} : am_run 266 1264 [some (.ref l0), some (.ref l1), some (.ref l2), some (.ref l3), some (.int l4), none, none, none] [.int s0] w = am_run 266 1404 [some (.ref l0), some (.ref l1), some (.ref l2), some (.ref l3), some (.int l4), none, none, none] [] w := by
  refine (bu (ls'' := [some (.ref l0), some (.ref l1), some (.ref l2), some (.ref l3), some (.int l4), none, none, none]) (st' := []) bf266_1264 bf266_1266 rfl rfl).trans ?_
  refine (bu (ls'' := [some (.ref l0), some (.ref l1), some (.ref l2), some (.ref l3), some (.int l4), none, none, none]) (st' := []) bf266_1266 bf266_1404 rfl rfl).trans ?_
  rfl
theorem bk266_1332 {w : am_Wd} {l0 : Nat} {l1 : Nat} {l2 : Nat} {l3 : Nat} {l4 : Int32} {s0 : Int32} : am_run 266 1332 [some (.ref l0), some (.ref l1), some (.ref l2), some (.ref l3), some (.int l4), none, none, none] [.int s0] w = am_run 266 1404 [some (.ref l0), some (.ref l1), some (.ref l2), some (.ref l3), some (.int l4), none, none, none] [] w := by
  refine (bu (ls'' := [some (.ref l0), some (.ref l1), some (.ref l2), some (.ref l3), some (.int l4), none, none, none]) (st' := []) bf266_1332 bf266_1334 rfl rfl).trans ?_
  refine (bu (ls'' := [some (.ref l0), some (.ref l1), some (.ref l2), some (.ref l3), some (.int l4), none, none, none]) (st' := []) bf266_1334 bf266_1404 rfl rfl).trans ?_
  rfl
theorem bk266_1372 {w : am_Wd} {l0 : Nat} {l1 : Nat} {l2 : Nat} {l3 : Nat} {l4 : Int32} {s0 : Int32} : am_run 266 1372 [some (.ref l0), some (.ref l1), some (.ref l2), some (.ref l3), some (.int l4), none, none, none] [.int s0] w = am_run 266 1404 [some (.ref l0), some (.ref l1), some (.ref l2), some (.ref l3), some (.int l4), none, none, none] [] w := by
  refine (bu (ls'' := [some (.ref l0), some (.ref l1), some (.ref l2), some (.ref l3), some (.int l4), none, none, none]) (st' := []) bf266_1372 bf266_1374 rfl rfl).trans ?_
  refine (bu (ls'' := [some (.ref l0), some (.ref l1), some (.ref l2), some (.ref l3), some (.int l4), none, none, none]) (st' := []) bf266_1374 bf266_1404 rfl rfl).trans ?_
  rfl
theorem bk266_216 {w : am_Wd} {l0 : Nat} {l1 : Nat} {l2 : Nat} {l3 : Nat} {l4 : Int32} {s0 : Int32} {s1 : Int32} {s2 : Nat} : am_run 266 216 [some (.ref l0), some (.ref l1), some (.ref l2), some (.ref l3), some (.int l4), none, none, none] [.int s0, .int s1, .ref s2] w = (am_ri 0 w l0 (l4 + (nI 3))).bind fun v => am_run 266 222 [some (.ref l0), some (.ref l1), some (.ref l2), some (.ref l3), some (.int l4), none, none, none] (.int v :: [.int s0, .int s1, .ref s2]) w := by
  refine (bu (ls'' := [some (.ref l0), some (.ref l1), some (.ref l2), some (.ref l3), some (.int l4), none, none, none]) (st' := [.ref l0, .int s0, .int s1, .ref s2]) bf266_216 bf266_217 rfl rfl).trans ?_
  refine (bu (ls'' := [some (.ref l0), some (.ref l1), some (.ref l2), some (.ref l3), some (.int l4), none, none, none]) (st' := [.int l4, .ref l0, .int s0, .int s1, .ref s2]) bf266_217 bf266_219 rfl rfl).trans ?_
  refine (bu (ls'' := [some (.ref l0), some (.ref l1), some (.ref l2), some (.ref l3), some (.int l4), none, none, none]) (st' := [.int (nI 3), .int l4, .ref l0, .int s0, .int s1, .ref s2]) bf266_219 bf266_220 rfl rfl).trans ?_
  refine (bu (ls'' := [some (.ref l0), some (.ref l1), some (.ref l2), some (.ref l3), some (.int l4), none, none, none]) (st' := [.int (l4 + (nI 3)), .ref l0, .int s0, .int s1, .ref s2]) bf266_220 bf266_221 rfl rfl).trans ?_
  exact bh bf266_221 bf266_222 rfl (fun _ _ => am_ge_rf w) rfl
theorem bk266_299 {w : am_Wd} {l0 : Nat} {l1 : Nat} {l2 : Nat} {l3 : Nat} {l4 : Int32} {s0 : Int32} {s1 : Int32} {s2 : Int32} {s3 : Nat} : am_run 266 299 [some (.ref l0), some (.ref l1), some (.ref l2), some (.ref l3), some (.int l4), none, none, none] [.int s0, .int s1, .int s2, .ref s3] w = (am_x 147 [.ref s3, .int s2, .int s1, .int s0, .ref l3] w).bind fun r => bct r fun v w' => am_run 266 303 [some (.ref l0), some (.ref l1), some (.ref l2), some (.ref l3), some (.int l4), none, none, none] (v.toList ++ []) w' := by
  refine (bu (ls'' := [some (.ref l0), some (.ref l1), some (.ref l2), some (.ref l3), some (.int l4), none, none, none]) (st' := [.ref l3, .int s0, .int s1, .int s2, .ref s3]) bf266_299 bf266_300 rfl rfl).trans ?_
  exact bkS bf266_300 bf266_303 rfl (by decide +kernel) (Nat.le_of_ble_eq_true rfl) rfl (bhd rfl)
theorem bk266_385 {w : am_Wd} {l0 : Nat} {l1 : Nat} {l2 : Nat} {l3 : Nat} {l4 : Int32} {s0 : Int32} : am_run 266 385 [some (.ref l0), some (.ref l1), some (.ref l2), some (.ref l3), some (.int l4), none, none, none] [.int s0] w = (am_ri 0 w l0 (l4 + (nI 1))).bind fun v => am_run 266 394 [some (.ref l0), some (.ref l1), some (.ref l2), some (.ref l3), some (.int l4), none, none, none] (.int v :: [.ref l2]) w := by
  refine (bu (ls'' := [some (.ref l0), some (.ref l1), some (.ref l2), some (.ref l3), some (.int l4), none, none, none]) (st' := []) bf266_385 bf266_387 rfl rfl).trans ?_
  refine (bu (ls'' := [some (.ref l0), some (.ref l1), some (.ref l2), some (.ref l3), some (.int l4), none, none, none]) (st' := [.ref l2]) bf266_387 bf266_388 rfl rfl).trans ?_
  refine (bu (ls'' := [some (.ref l0), some (.ref l1), some (.ref l2), some (.ref l3), some (.int l4), none, none, none]) (st' := [.ref l0, .ref l2]) bf266_388 bf266_389 rfl rfl).trans ?_
  refine (bu (ls'' := [some (.ref l0), some (.ref l1), some (.ref l2), some (.ref l3), some (.int l4), none, none, none]) (st' := [.int l4, .ref l0, .ref l2]) bf266_389 bf266_391 rfl rfl).trans ?_
  refine (bu (ls'' := [some (.ref l0), some (.ref l1), some (.ref l2), some (.ref l3), some (.int l4), none, none, none]) (st' := [.int (nI 1), .int l4, .ref l0, .ref l2]) bf266_391 bf266_392 rfl rfl).trans ?_
  refine (bu (ls'' := [some (.ref l0), some (.ref l1), some (.ref l2), some (.ref l3), some (.int l4), none, none, none]) (st' := [.int (l4 + (nI 1)), .ref l0, .ref l2]) bf266_392 bf266_393 rfl rfl).trans ?_
  exact bh bf266_393 bf266_394 rfl (fun _ _ => am_ge_rf w) rfl
theorem bk266_468 {w : am_Wd} {l0 : Nat} {l1 : Nat} {l2 : Nat} {l3 : Nat} {l4 : Int32} {s0 : Int32} {s1 : Int32} {s2 : Nat} : am_run 266 468 [some (.ref l0), some (.ref l1), some (.ref l2), some (.ref l3), some (.int l4), none, none, none] [.int s0, .int s1, .ref s2] w = if s0 = nI 0 then am_run 266 475 [some (.ref l0), some (.ref l1), some (.ref l2), some (.ref l3), some (.int l4), none, none, none] [.int s1, .ref s2] w else am_run 266 471 [some (.ref l0), some (.ref l1), some (.ref l2), some (.ref l3), some (.int l4), none, none, none] [.int s1, .ref s2] w := by
  exact bifc bf266_468 rfl bf266_475 bf266_471 rfl rfl rfl
theorem bk266_519 {w : am_Wd} {l0 : Nat} {l1 : Nat} {l2 : Nat} {l3 : Nat} {l4 : Int32} {s0 : Int32} {s1 : Int32} {s2 : Int32} {s3 : Nat} : am_run 266 519 [some (.ref l0), some (.ref l1), some (.ref l2), some (.ref l3), some (.int l4), none, none, none] [.int s0, .int s1, .int s2, .ref s3] w = (am_x 254 [.ref s3, .int s2, .int s1, .int s0, .ref l3] w).bind fun r => bct r fun v w' => am_run 266 523 [some (.ref l0), some (.ref l1), some (.ref l2), some (.ref l3), some (.int l4), none, none, none] (v.toList ++ []) w' := by
  refine (bu (ls'' := [some (.ref l0), some (.ref l1), some (.ref l2), some (.ref l3), some (.int l4), none, none, none]) (st' := [.ref l3, .int s0, .int s1, .int s2, .ref s3]) bf266_519 bf266_520 rfl rfl).trans ?_
  exact bkS bf266_520 bf266_523 rfl (by decide +kernel) (Nat.le_of_ble_eq_true rfl) rfl (bhd rfl)
theorem bk266_608 {w : am_Wd} {l0 : Nat} {l1 : Nat} {l2 : Nat} {l3 : Nat} {l4 : Int32} {s0 : Int32} {s1 : Int32} {s2 : Nat} : am_run 266 608 [some (.ref l0), some (.ref l1), some (.ref l2), some (.ref l3), some (.int l4), none, none, none] [.int s0, .int s1, .ref s2] w = if s0 = nI 0 then am_run 266 615 [some (.ref l0), some (.ref l1), some (.ref l2), some (.ref l3), some (.int l4), none, none, none] [.int s1, .ref s2] w else am_run 266 611 [some (.ref l0), some (.ref l1), some (.ref l2), some (.ref l3), some (.int l4), none, none, none] [.int s1, .ref s2] w := by
  exact bifc bf266_608 rfl bf266_615 bf266_611 rfl rfl rfl
theorem bk266_664 {w : am_Wd} {l0 : Nat} {l1 : Nat} {l2 : Nat} {l3 : Nat} {l4 : Int32} {s0 : Int32} {s1 : Int32} {s2 : Nat} : am_run 266 664 [some (.ref l0), some (.ref l1), some (.ref l2), some (.ref l3), some (.int l4), none, none, none] [.int s0, .int s1, .ref s2] w = if s0 = nI 0 then am_run 266 671 [some (.ref l0), some (.ref l1), some (.ref l2), some (.ref l3), some (.int l4), none, none, none] [.int s1, .ref s2] w else am_run 266 667 [some (.ref l0), some (.ref l1), some (.ref l2), some (.ref l3), some (.int l4), none, none, none] [.int s1, .ref s2] w := by
  exact bifc bf266_664 rfl bf266_671 bf266_667 rfl rfl rfl
theorem bk266_873 {w : am_Wd} {l0 : Nat} {l1 : Nat} {l2 : Nat} {l3 : Nat} {l4 : Int32} {s0 : Int32} {s1 : Int32} {s2 : Int32} {s3 : Nat} : am_run 266 873 [some (.ref l0), some (.ref l1), some (.ref l2), some (.ref l3), some (.int l4), none, none, none] [.int s0, .int s1, .int s2, .ref s3] w = (am_kf w s3 11).bind fun _ => (am_x 212 [.ref s3, .int s2, .int s1, .int s0] w).bind fun r => bct r fun v w' => am_run 266 876 [some (.ref l0), some (.ref l1), some (.ref l2), some (.ref l3), some (.int l4), none, none, none] (v.toList ++ []) w' := by
  exact bkV bf266_873 bf266_876 rfl (by decide +kernel) (Nat.le_of_ble_eq_true rfl) rfl (bhd rfl)
theorem bk266_1021 {w : am_Wd} {l0 : Nat} {l1 : Nat} {l2 : Nat} {l3 : Nat} {l4 : Int32} {s0 : Int32} {s1 : Int32} {s2 : Int32} {s3 : Nat} : am_run 266 1021 [some (.ref l0), some (.ref l1), some (.ref l2), some (.ref l3), some (.int l4), none, none, none] [.int s0, .int s1, .int s2, .ref s3] w = (am_kf w s3 11).bind fun _ => (am_x 214 [.ref s3, .int s2, .int s1, .int s0] w).bind fun r => bct r fun v w' => am_run 266 1024 [some (.ref l0), some (.ref l1), some (.ref l2), some (.ref l3), some (.int l4), none, none, none] (v.toList ++ []) w' := by
  exact bkV bf266_1021 bf266_1024 rfl (by decide +kernel) (Nat.le_of_ble_eq_true rfl) rfl (bhd rfl)
theorem bk266_1153 {w : am_Wd} {l0 : Nat} {l1 : Nat} {l2 : Nat} {l3 : Nat} {l4 : Int32} {s0 : Int32} {s1 : Int32} {s2 : Int32} {s3 : Nat} : am_run 266 1153 [some (.ref l0), some (.ref l1), some (.ref l2), some (.ref l3), some (.int l4), none, none, none] [.int s0, .int s1, .int s2, .ref s3] w = (am_kf w s3 11).bind fun _ => (am_x 228 [.ref s3, .int s2, .int s1, .int s0] w).bind fun r => bct r fun v w' => am_run 266 1156 [some (.ref l0), some (.ref l1), some (.ref l2), some (.ref l3), some (.int l4), none, none, none] (v.toList ++ []) w' := by
  exact bkV bf266_1153 bf266_1156 rfl (by decide +kernel) (Nat.le_of_ble_eq_true rfl) rfl (bhd rfl)
theorem bk266_222 {w : am_Wd} {l0 : Nat} {l1 : Nat} {l2 : Nat} {l3 : Nat} {l4 : Int32} {s0 : Int32} {s1 : Int32} {s2 : Int32} {s3 : Nat} : am_run 266 222 [some (.ref l0), some (.ref l1), some (.ref l2), some (.ref l3), some (.int l4), none, none, none] [.int s0, .int s1, .int s2, .ref s3] w = (am_ri 0 w l0 (l4 + (nI 4))).bind fun v => am_run 266 228 [some (.ref l0), some (.ref l1), some (.ref l2), some (.ref l3), some (.int l4), none, none, none] (.int v :: [.int s0, .int s1, .int s2, .ref s3]) w := by
  refine (bu (ls'' := [some (.ref l0), some (.ref l1), some (.ref l2), some (.ref l3), some (.int l4), none, none, none]) (st' := [.ref l0, .int s0, .int s1, .int s2, .ref s3]) bf266_222 bf266_223 rfl rfl).trans ?_
  refine (bu (ls'' := [some (.ref l0), some (.ref l1), some (.ref l2), some (.ref l3), some (.int l4), none, none, none]) (st' := [.int l4, .ref l0, .int s0, .int s1, .int s2, .ref s3]) bf266_223 bf266_225 rfl rfl).trans ?_
  refine (bu (ls'' := [some (.ref l0), some (.ref l1), some (.ref l2), some (.ref l3), some (.int l4), none, none, none]) (st' := [.int (nI 4), .int l4, .ref l0, .int s0, .int s1, .int s2, .ref s3]) bf266_225 bf266_226 rfl rfl).trans ?_
  refine (bu (ls'' := [some (.ref l0), some (.ref l1), some (.ref l2), some (.ref l3), some (.int l4), none, none, none]) (st' := [.int (l4 + (nI 4)), .ref l0, .int s0, .int s1, .int s2, .ref s3]) bf266_226 bf266_227 rfl rfl).trans ?_
  exact bh bf266_227 bf266_228 rfl (fun _ _ => am_ge_rf w) rfl
theorem bk266_303 {w : am_Wd} {l0 : Nat} {l1 : Nat} {l2 : Nat} {l3 : Nat} {l4 : Int32} {s0 : Int32} : am_run 266 303 [some (.ref l0), some (.ref l1), some (.ref l2), some (.ref l3), some (.int l4), none, none, none] [.int s0] w = (am_ri 0 w l0 (l4 + (nI 1))).bind fun v => am_run 266 312 [some (.ref l0), some (.ref l1), some (.ref l2), some (.ref l3), some (.int l4), none, none, none] (.int v :: [.ref l2]) w := by
  refine (bu (ls'' := [some (.ref l0), some (.ref l1), some (.ref l2), some (.ref l3), some (.int l4), none, none, none]) (st' := []) bf266_303 bf266_305 rfl rfl).trans ?_
  refine (bu (ls'' := [some (.ref l0), some (.ref l1), some (.ref l2), some (.ref l3), some (.int l4), none, none, none]) (st' := [.ref l2]) bf266_305 bf266_306 rfl rfl).trans ?_
  refine (bu (ls'' := [some (.ref l0), some (.ref l1), some (.ref l2), some (.ref l3), some (.int l4), none, none, none]) (st' := [.ref l0, .ref l2]) bf266_306 bf266_307 rfl rfl).trans ?_
  refine (bu (ls'' := [some (.ref l0), some (.ref l1), some (.ref l2), some (.ref l3), some (.int l4), none, none, none]) (st' := [.int l4, .ref l0, .ref l2]) bf266_307 bf266_309 rfl rfl).trans ?_
  refine (bu (ls'' := [some (.ref l0), some (.ref l1), some (.ref l2), some (.ref l3), some (.int l4), none, none, none]) (st' := [.int (nI 1), .int l4, .ref l0, .ref l2]) bf266_309 bf266_310 rfl rfl).trans ?_
  refine (bu (ls'' := [some (.ref l0), some (.ref l1), some (.ref l2), some (.ref l3), some (.int l4), none, none, none]) (st' := [.int (l4 + (nI 1)), .ref l0, .ref l2]) bf266_310 bf266_311 rfl rfl).trans ?_
  exact bh bf266_311 bf266_312 rfl (fun _ _ => am_ge_rf w) rfl
theorem bk266_394 {w : am_Wd} {l0 : Nat} {l1 : Nat} {l2 : Nat} {l3 : Nat} {l4 : Int32} {s0 : Int32} {s1 : Nat} : am_run 266 394 [some (.ref l0), some (.ref l1), some (.ref l2), some (.ref l3), some (.int l4), none, none, none] [.int s0, .ref s1] w = (am_ri 0 w l0 (l4 + (nI 2))).bind fun v => am_run 266 400 [some (.ref l0), some (.ref l1), some (.ref l2), some (.ref l3), some (.int l4), none, none, none] (.int v :: [.int s0, .ref s1]) w := by
  refine (bu (ls'' := [some (.ref l0), some (.ref l1), some (.ref l2), some (.ref l3), some (.int l4), none, none, none]) (st' := [.ref l0, .int s0, .ref s1]) bf266_394 bf266_395 rfl rfl).trans ?_
  refine (bu (ls'' := [some (.ref l0), some (.ref l1), some (.ref l2), some (.ref l3), some (.int l4), none, none, none]) (st' := [.int l4, .ref l0, .int s0, .ref s1]) bf266_395 bf266_397 rfl rfl).trans ?_
  refine (bu (ls'' := [some (.ref l0), some (.ref l1), some (.ref l2), some (.ref l3), some (.int l4), none, none, none]) (st' := [.int (nI 2), .int l4, .ref l0, .int s0, .ref s1]) bf266_397 bf266_398 rfl rfl).trans ?_
  refine (bu (ls'' := [some (.ref l0), some (.ref l1), some (.ref l2), some (.ref l3), some (.int l4), none, none, none]) (st' := [.int (l4 + (nI 2)), .ref l0, .int s0, .ref s1]) bf266_398 bf266_399 rfl rfl).trans ?_
  exact bh bf266_399 bf266_400 rfl (fun _ _ => am_ge_rf w) rfl
theorem bk266_475 {w : am_Wd} {l0 : Nat} {l1 : Nat} {l2 : Nat} {l3 : Nat} {l4 : Int32} {s0 : Int32} {s1 : Nat} : am_run 266 475 [some (.ref l0), some (.ref l1), some (.ref l2), some (.ref l3), some (.int l4), none, none, none] [.int s0, .ref s1] w = am_run 266 476 [some (.ref l0), some (.ref l1), some (.ref l2), some (.ref l3), some (.int l4), none, none, none] [.int (nI 0), .int s0, .ref s1] w := by
  refine (bu (ls'' := [some (.ref l0), some (.ref l1), some (.ref l2), some (.ref l3), some (.int l4), none, none, none]) (st' := [.int (nI 0), .int s0, .ref s1]) bf266_475 bf266_476 rfl rfl).trans ?_
  rfl
theorem bk266_471 {w : am_Wd} {l0 : Nat} {l1 : Nat} {l2 : Nat} {l3 : Nat} {l4 : Int32} {s0 : Int32} {s1 : Nat} : am_run 266 471 [some (.ref l0), some (.ref l1), some (.ref l2), some (.ref l3), some (.int l4), none, none, none] [.int s0, .ref s1] w = am_run 266 476 [some (.ref l0), some (.ref l1), some (.ref l2), some (.ref l3), some (.int l4), none, none, none] [.int (nI 1), .int s0, .ref s1] w := by
  refine (bu (ls'' := [some (.ref l0), some (.ref l1), some (.ref l2), some (.ref l3), some (.int l4), none, none, none]) (st' := [.int (nI 1), .int s0, .ref s1]) bf266_471 bf266_472 rfl rfl).trans ?_
  refine (bu (ls'' := [some (.ref l0), some (.ref l1), some (.ref l2), some (.ref l3), some (.int l4), none, none, none]) (st' := [.int (nI 1), .int s0, .ref s1]) bf266_472 bf266_476 rfl rfl).trans ?_
  rfl
theorem bk266_523 {w : am_Wd} {l0 : Nat} {l1 : Nat} {l2 : Nat} {l3 : Nat} {l4 : Int32} {s0 : Int32} : am_run 266 523 [some (.ref l0), some (.ref l1), some (.ref l2), some (.ref l3), some (.int l4), none, none, none] [.int s0] w = (am_ri 0 w l0 (l4 + (nI 1))).bind fun v => am_run 266 532 [some (.ref l0), some (.ref l1), some (.ref l2), some (.ref l3), some (.int l4), none, none, none] (.int v :: [.ref l2]) w := by
  refine (bu (ls'' := [some (.ref l0), some (.ref l1), some (.ref l2), some (.ref l3), some (.int l4), none, none, none]) (st' := []) bf266_523 bf266_525 rfl rfl).trans ?_
  refine (bu (ls'' := [some (.ref l0), some (.ref l1), some (.ref l2), some (.ref l3), some (.int l4), none, none, none]) (st' := [.ref l2]) bf266_525 bf266_526 rfl rfl).trans ?_
  refine (bu (ls'' := [some (.ref l0), some (.ref l1), some (.ref l2), some (.ref l3), some (.int l4), none, none, none]) (st' := [.ref l0, .ref l2]) bf266_526 bf266_527 rfl rfl).trans ?_
  refine (bu (ls'' := [some (.ref l0), some (.ref l1), some (.ref l2), some (.ref l3), some (.int l4), none, none, none]) (st' := [.int l4, .ref l0, .ref l2]) bf266_527 bf266_529 rfl rfl).trans ?_
  refine (bu (ls'' := [some (.ref l0), some (.ref l1), some (.ref l2), some (.ref l3), some (.int l4), none, none, none]) (st' := [.int (nI 1), .int l4, .ref l0, .ref l2]) bf266_529 bf266_530 rfl rfl).trans ?_
  refine (bu (ls'' := [some (.ref l0), some (.ref l1), some (.ref l2), some (.ref l3), some (.int l4), none, none, none]) (st' := [.int (l4 + (nI 1)), .ref l0, .ref l2]) bf266_530 bf266_531 rfl rfl).trans ?_
  exact bh bf266_531 bf266_532 rfl (fun _ _ => am_ge_rf w) rfl
theorem bk266_615 {w : am_Wd} {l0 : Nat} {l1 : Nat} {l2 : Nat} {l3 : Nat} {l4 : Int32} {s0 : Int32} {s1 : Nat} : am_run 266 615 [some (.ref l0), some (.ref l1), some (.ref l2), some (.ref l3), some (.int l4), none, none, none] [.int s0, .ref s1] w = am_run 266 616 [some (.ref l0), some (.ref l1), some (.ref l2), some (.ref l3), some (.int l4), none, none, none] [.int (nI 0), .int s0, .ref s1] w := by
  refine (bu (ls'' := [some (.ref l0), some (.ref l1), some (.ref l2), some (.ref l3), some (.int l4), none, none, none]) (st' := [.int (nI 0), .int s0, .ref s1]) bf266_615 bf266_616 rfl rfl).trans ?_
  rfl
theorem bk266_611 {w : am_Wd} {l0 : Nat} {l1 : Nat} {l2 : Nat} {l3 : Nat} {l4 : Int32} {s0 : Int32} {s1 : Nat} : am_run 266 611 [some (.ref l0), some (.ref l1), some (.ref l2), some (.ref l3), some (.int l4), none, none, none] [.int s0, .ref s1] w = am_run 266 616 [some (.ref l0), some (.ref l1), some (.ref l2), some (.ref l3), some (.int l4), none, none, none] [.int (nI 1), .int s0, .ref s1] w := by
  refine (bu (ls'' := [some (.ref l0), some (.ref l1), some (.ref l2), some (.ref l3), some (.int l4), none, none, none]) (st' := [.int (nI 1), .int s0, .ref s1]) bf266_611 bf266_612 rfl rfl).trans ?_
  refine (bu (ls'' := [some (.ref l0), some (.ref l1), some (.ref l2), some (.ref l3), some (.int l4), none, none, none]) (st' := [.int (nI 1), .int s0, .ref s1]) bf266_612 bf266_616 rfl rfl).trans ?_
  rfl
theorem bk266_671 {w : am_Wd} {l0 : Nat} {l1 : Nat} {l2 : Nat} {l3 : Nat} {l4 : Int32} {s0 : Int32} {s1 : Nat} : am_run 266 671 [some (.ref l0), some (.ref l1), some (.ref l2), some (.ref l3), some (.int l4), none, none, none] [.int s0, .ref s1] w = am_run 266 672 [some (.ref l0), some (.ref l1), some (.ref l2), some (.ref l3), some (.int l4), none, none, none] [.int (nI 0), .int s0, .ref s1] w := by
  refine (bu (ls'' := [some (.ref l0), some (.ref l1), some (.ref l2), some (.ref l3), some (.int l4), none, none, none]) (st' := [.int (nI 0), .int s0, .ref s1]) bf266_671 bf266_672 rfl rfl).trans ?_
  rfl
theorem bk266_667 {w : am_Wd} {l0 : Nat} {l1 : Nat} {l2 : Nat} {l3 : Nat} {l4 : Int32} {s0 : Int32} {s1 : Nat} : am_run 266 667 [some (.ref l0), some (.ref l1), some (.ref l2), some (.ref l3), some (.int l4), none, none, none] [.int s0, .ref s1] w = am_run 266 672 [some (.ref l0), some (.ref l1), some (.ref l2), some (.ref l3), some (.int l4), none, none, none] [.int (nI 1), .int s0, .ref s1] w := by
  refine (bu (ls'' := [some (.ref l0), some (.ref l1), some (.ref l2), some (.ref l3), some (.int l4), none, none, none]) (st' := [.int (nI 1), .int s0, .ref s1]) bf266_667 bf266_668 rfl rfl).trans ?_
  refine (bu (ls'' := [some (.ref l0), some (.ref l1), some (.ref l2), some (.ref l3), some (.int l4), none, none, none]) (st' := [.int (nI 1), .int s0, .ref s1]) bf266_668 bf266_672 rfl rfl).trans ?_
  rfl
theorem bk266_876 {w : am_Wd} {l0 : Nat} {l1 : Nat} {l2 : Nat} {l3 : Nat} {l4 : Int32} {s0 : Int32} : am_run 266 876 [some (.ref l0), some (.ref l1), some (.ref l2), some (.ref l3), some (.int l4), none, none, none] [.int s0] w = am_run 266 1404 [some (.ref l0), some (.ref l1), some (.ref l2), some (.ref l3), some (.int l4), none, none, none] [] w := by
  refine (bu (ls'' := [some (.ref l0), some (.ref l1), some (.ref l2), some (.ref l3), some (.int l4), none, none, none]) (st' := []) bf266_876 bf266_878 rfl rfl).trans ?_
  refine (bu (ls'' := [some (.ref l0), some (.ref l1), some (.ref l2), some (.ref l3), some (.int l4), none, none, none]) (st' := []) bf266_878 bf266_1404 rfl rfl).trans ?_
  rfl
theorem bk266_1024 {w : am_Wd} {l0 : Nat} {l1 : Nat} {l2 : Nat} {l3 : Nat} {l4 : Int32} {s0 : Int32} : am_run 266 1024 [some (.ref l0), some (.ref l1), some (.ref l2), some (.ref l3), some (.int l4), none, none, none] [.int s0] w = am_run 266 1404 [some (.ref l0), some (.ref l1), some (.ref l2), some (.ref l3), some (.int l4), none, none, none] [] w := by
  refine (bu (ls'' := [some (.ref l0), some (.ref l1), some (.ref l2), some (.ref l3), some (.int l4), none, none, none]) (st' := []) bf266_1024 bf266_1026 rfl rfl).trans ?_
  refine (bu (ls'' := [some (.ref l0), some (.ref l1), some (.ref l2), some (.ref l3), some (.int l4), none, none, none]) (st' := []) bf266_1026 bf266_1404 rfl rfl).trans ?_
  rfl
theorem bk266_1156 {w : am_Wd} {l0 : Nat} {l1 : Nat} {l2 : Nat} {l3 : Nat} {l4 : Int32} {s0 : Int32} : am_run 266 1156 [some (.ref l0), some (.ref l1), some (.ref l2), some (.ref l3), some (.int l4), none, none, none] [.int s0] w = am_run 266 1404 [some (.ref l0), some (.ref l1), some (.ref l2), some (.ref l3), some (.int l4), none, none, none] [] w := by
  refine (bu (ls'' := [some (.ref l0), some (.ref l1), some (.ref l2), some (.ref l3), some (.int l4), none, none, none]) (st' := []) bf266_1156 bf266_1158 rfl rfl).trans ?_
  refine (bu (ls'' := [some (.ref l0), some (.ref l1), some (.ref l2), some (.ref l3), some (.int l4), none, none, none]) (st' := []) bf266_1158 bf266_1404 rfl rfl).trans ?_
  rfl
theorem bk266_228 {w : am_Wd} {l0 : Nat} {l1 : Nat} {l2 : Nat} {l3 : Nat} {l4 : Int32} {s0 : Int32} {s1 : Int32} {s2 : Int32} {s3 : Int32} {s4 : Nat} : am_run 266 228 [some (.ref l0), some (.ref l1), some (.ref l2), some (.ref l3), some (.int l4), none, none, none] [.int s0, .int s1, .int s2, .int s3, .ref s4] w = (am_kf w s4 11).bind fun _ => (am_x 176 [.ref s4, .int s3, .int s2, .int s1, .int s0] w).bind fun r => bct r fun v w' => am_run 266 231 [some (.ref l0), some (.ref l1), some (.ref l2), some (.ref l3), some (.int l4), none, none, none] (v.toList ++ []) w' := by
  exact bkV bf266_228 bf266_231 rfl (by decide +kernel) (Nat.le_of_ble_eq_true rfl) rfl (bhd rfl)
theorem bk266_312 {w : am_Wd} {l0 : Nat} {l1 : Nat} {l2 : Nat} {l3 : Nat} {l4 : Int32} {s0 : Int32} {s1 : Nat} : am_run 266 312 [some (.ref l0), some (.ref l1), some (.ref l2), some (.ref l3), some (.int l4), none, none, none] [.int s0, .ref s1] w = (am_ri 0 w l0 (l4 + (nI 2))).bind fun v => am_run 266 318 [some (.ref l0), some (.ref l1), some (.ref l2), some (.ref l3), some (.int l4), none, none, none] (.int v :: [.int s0, .ref s1]) w := by
  refine (bu (ls'' := [some (.ref l0), some (.ref l1), some (.ref l2), some (.ref l3), some (.int l4), none, none, none]) (st' := [.ref l0, .int s0, .ref s1]) bf266_312 bf266_313 rfl rfl).trans ?_
  refine (bu (ls'' := [some (.ref l0), some (.ref l1), some (.ref l2), some (.ref l3), some (.int l4), none, none, none]) (st' := [.int l4, .ref l0, .int s0, .ref s1]) bf266_313 bf266_315 rfl rfl).trans ?_
  refine (bu (ls'' := [some (.ref l0), some (.ref l1), some (.ref l2), some (.ref l3), some (.int l4), none, none, none]) (st' := [.int (nI 2), .int l4, .ref l0, .int s0, .ref s1]) bf266_315 bf266_316 rfl rfl).trans ?_
  refine (bu (ls'' := [some (.ref l0), some (.ref l1), some (.ref l2), some (.ref l3), some (.int l4), none, none, none]) (st' := [.int (l4 + (nI 2)), .ref l0, .int s0, .ref s1]) bf266_316 bf266_317 rfl rfl).trans ?_
  exact bh bf266_317 bf266_318 rfl (fun _ _ => am_ge_rf w) rfl
theorem bk266_400 {w : am_Wd} {l0 : Nat} {l1 : Nat} {l2 : Nat} {l3 : Nat} {l4 : Int32} {s0 : Int32} {s1 : Int32} {s2 : Nat} : am_run 266 400 [some (.ref l0), some (.ref l1), some (.ref l2), some (.ref l3), some (.int l4), none, none, none] [.int s0, .int s1, .ref s2] w = (am_ri 0 w l0 (l4 + (nI 3))).bind fun v => am_run 266 406 [some (.ref l0), some (.ref l1), some (.ref l2), some (.ref l3), some (.int l4), none, none, none] (.int v :: [.int s0, .int s1, .ref s2]) w := by
  refine (bu (ls'' := [some (.ref l0), some (.ref l1), some (.ref l2), some (.ref l3), some (.int l4), none, none, none]) (st' := [.ref l0, .int s0, .int s1, .ref s2]) bf266_400 bf266_401 rfl rfl).trans ?_
  refine (bu (ls'' := [some (.ref l0), some (.ref l1), some (.ref l2), some (.ref l3), some (.int l4), none, none, none]) (st' := [.int l4, .ref l0, .int s0, .int s1, .ref s2]) bf266_401 bf266_403 rfl rfl).trans ?_
  refine (bu (ls'' := [some (.ref l0), some (.ref l1), some (.ref l2), some (.ref l3), some (.int l4), none, none, none]) (st' := [.int (nI 3), .int l4, .ref l0, .int s0, .int s1, .ref s2]) bf266_403 bf266_404 rfl rfl).trans ?_
  refine (bu (ls'' := [some (.ref l0), some (.ref l1), some (.ref l2), some (.ref l3), some (.int l4), none, none, none]) (st' := [.int (l4 + (nI 3)), .ref l0, .int s0, .int s1, .ref s2]) bf266_404 bf266_405 rfl rfl).trans ?_
  exact bh bf266_405 bf266_406 rfl (fun _ _ => am_ge_rf w) rfl
theorem bk266_476 {w : am_Wd} {l0 : Nat} {l1 : Nat} {l2 : Nat} {l3 : Nat} {l4 : Int32} {s0 : Int32} {s1 : Int32} {s2 : Nat} : am_run 266 476 [some (.ref l0), some (.ref l1), some (.ref l2), some (.ref l3), some (.int l4), none, none, none] [.int s0, .int s1, .ref s2] w = (am_kf w s2 11).bind fun _ => (am_x 260 [.ref s2, .int s1, .int s0] w).bind fun r => bct r fun v w' => am_run 266 479 [some (.ref l0), some (.ref l1), some (.ref l2), some (.ref l3), some (.int l4), none, none, none] (v.toList ++ []) w' := by
  exact bkV bf266_476 bf266_479 rfl (by decide +kernel) (Nat.le_of_ble_eq_true rfl) rfl (bhd rfl)
theorem bk266_532 {w : am_Wd} {l0 : Nat} {l1 : Nat} {l2 : Nat} {l3 : Nat} {l4 : Int32} {s0 : Int32} {s1 : Nat} : am_run 266 532 [some (.ref l0), some (.ref l1), some (.ref l2), some (.ref l3), some (.int l4), none, none, none] [.int s0, .ref s1] w = (am_ri 0 w l0 (l4 + (nI 2))).bind fun v => am_run 266 538 [some (.ref l0), some (.ref l1), some (.ref l2), some (.ref l3), some (.int l4), none, none, none] (.int v :: [.int s0, .ref s1]) w := by
  refine (bu (ls'' := [some (.ref l0), some (.ref l1), some (.ref l2), some (.ref l3), some (.int l4), none, none, none]) (st' := [.ref l0, .int s0, .ref s1]) bf266_532 bf266_533 rfl rfl).trans ?_
  refine (bu (ls'' := [some (.ref l0), some (.ref l1), some (.ref l2), some (.ref l3), some (.int l4), none, none, none]) (st' := [.int l4, .ref l0, .int s0, .ref s1]) bf266_533 bf266_535 rfl rfl).trans ?_
  refine (bu (ls'' := [some (.ref l0), some (.ref l1), some (.ref l2), some (.ref l3), some (.int l4), none, none, none]) (st' := [.int (nI 2), .int l4, .ref l0, .int s0, .ref s1]) bf266_535 bf266_536 rfl rfl).trans ?_
  refine (bu (ls'' := [some (.ref l0), some (.ref l1), some (.ref l2), some (.ref l3), some (.int l4), none, none, none]) (st' := [.int (l4 + (nI 2)), .ref l0, .int s0, .ref s1]) bf266_536 bf266_537 rfl rfl).trans ?_
  exact bh bf266_537 bf266_538 rfl (fun _ _ => am_ge_rf w) rfl
theorem bk266_616 {w : am_Wd} {l0 : Nat} {l1 : Nat} {l2 : Nat} {l3 : Nat} {l4 : Int32} {s0 : Int32} {s1 : Int32} {s2 : Nat} : am_run 266 616 [some (.ref l0), some (.ref l1), some (.ref l2), some (.ref l3), some (.int l4), none, none, none] [.int s0, .int s1, .ref s2] w = (am_kf w s2 11).bind fun _ => (am_x 262 [.ref s2, .int s1, .int s0] w).bind fun r => bct r fun v w' => am_run 266 619 [some (.ref l0), some (.ref l1), some (.ref l2), some (.ref l3), some (.int l4), none, none, none] (v.toList ++ []) w' := by
  exact bkV bf266_616 bf266_619 rfl (by decide +kernel) (Nat.le_of_ble_eq_true rfl) rfl (bhd rfl)
theorem bk266_672 {w : am_Wd} {l0 : Nat} {l1 : Nat} {l2 : Nat} {l3 : Nat} {l4 : Int32} {s0 : Int32} {s1 : Int32} {s2 : Nat} : am_run 266 672 [some (.ref l0), some (.ref l1), some (.ref l2), some (.ref l3), some (.int l4), none, none, none] [.int s0, .int s1, .ref s2] w = (am_kf w s2 11).bind fun _ => (am_x 263 [.ref s2, .int s1, .int s0] w).bind fun r => bct r fun v w' => am_run 266 675 [some (.ref l0), some (.ref l1), some (.ref l2), some (.ref l3), some (.int l4), none, none, none] (v.toList ++ []) w' := by
  exact bkV bf266_672 bf266_675 rfl (by decide +kernel) (Nat.le_of_ble_eq_true rfl) rfl (bhd rfl)
theorem bk266_231 {w : am_Wd} {l0 : Nat} {l1 : Nat} {l2 : Nat} {l3 : Nat} {l4 : Int32} {s0 : Int32} : am_run 266 231 [some (.ref l0), some (.ref l1), some (.ref l2), some (.ref l3), some (.int l4), none, none, none] [.int s0] w = am_run 266 1404 [some (.ref l0), some (.ref l1), some (.ref l2), some (.ref l3), some (.int l4), none, none, none] [] w := by
  refine (bu (ls'' := [some (.ref l0), some (.ref l1), some (.ref l2), some (.ref l3), some (.int l4), none, none, none]) (st' := []) bf266_231 bf266_233 rfl rfl).trans ?_
  refine (bu (ls'' := [some (.ref l0), some (.ref l1), some (.ref l2), some (.ref l3), some (.int l4), none, none, none]) (st' := []) bf266_233 bf266_1404 rfl rfl).trans ?_
  rfl
theorem bk266_318 {w : am_Wd} {l0 : Nat} {l1 : Nat} {l2 : Nat} {l3 : Nat} {l4 : Int32} {s0 : Int32} {s1 : Int32} {s2 : Nat} : am_run 266 318 [some (.ref l0), some (.ref l1), some (.ref l2), some (.ref l3), some (.int l4), none, none, none] [.int s0, .int s1, .ref s2] w = if s0 = nI 0 then am_run 266 325 [some (.ref l0), some (.ref l1), some (.ref l2), some (.ref l3), some (.int l4), none, none, none] [.int s1, .ref s2] w else am_run 266 321 [some (.ref l0), some (.ref l1), some (.ref l2), some (.ref l3), some (.int l4), none, none, none] [.int s1, .ref s2] w := by
  exact bifc bf266_318 rfl bf266_325 bf266_321 rfl rfl rfl
theorem bk266_406 {w : am_Wd} {l0 : Nat} {l1 : Nat} {l2 : Nat} {l3 : Nat} {l4 : Int32} {s0 : Int32} {s1 : Int32} {s2 : Int32} {s3 : Nat} : am_run 266 406 [some (.ref l0), some (.ref l1), some (.ref l2), some (.ref l3), some (.int l4), none, none, none] [.int s0, .int s1, .int s2, .ref s3] w = (am_ri 0 w l0 (l4 + (nI 4))).bind fun v => am_run 266 412 [some (.ref l0), some (.ref l1), some (.ref l2), some (.ref l3), some (.int l4), none, none, none] (.int v :: [.int s0, .int s1, .int s2, .ref s3]) w := by
  refine (bu (ls'' := [some (.ref l0), some (.ref l1), some (.ref l2), some (.ref l3), some (.int l4), none, none, none]) (st' := [.ref l0, .int s0, .int s1, .int s2, .ref s3]) bf266_406 bf266_407 rfl rfl).trans ?_
  refine (bu (ls'' := [some (.ref l0), some (.ref l1), some (.ref l2), some (.ref l3), some (.int l4), none, none, none]) (st' := [.int l4, .ref l0, .int s0, .int s1, .int s2, .ref s3]) bf266_407 bf266_409 rfl rfl).trans ?_
  refine (bu (ls'' := [some (.ref l0), some (.ref l1), some (.ref l2), some (.ref l3), some (.int l4), none, none, none]) (st' := [.int (nI 4), .int l4, .ref l0, .int s0, .int s1, .int s2, .ref s3]) bf266_409 bf266_410 rfl rfl).trans ?_
  refine (bu (ls'' := [some (.ref l0), some (.ref l1), some (.ref l2), some (.ref l3), some (.int l4), none, none, none]) (st' := [.int (l4 + (nI 4)), .ref l0, .int s0, .int s1, .int s2, .ref s3]) bf266_410 bf266_411 rfl rfl).trans ?_
  exact bh bf266_411 bf266_412 rfl (fun _ _ => am_ge_rf w) rfl
theorem bk266_479 {w : am_Wd} {l0 : Nat} {l1 : Nat} {l2 : Nat} {l3 : Nat} {l4 : Int32} {s0 : Int32} : am_run 266 479 [some (.ref l0), some (.ref l1), some (.ref l2), some (.ref l3), some (.int l4), none, none, none] [.int s0] w = am_run 266 1404 [some (.ref l0), some (.ref l1), some (.ref l2), some (.ref l3), some (.int l4), none, none, none] [] w := by
  refine (bu (ls'' := [some (.ref l0), some (.ref l1), some (.ref l2), some (.ref l3), some (.int l4), none, none, none]) (st' := []) bf266_479 bf266_481 rfl rfl).trans ?_
  refine (bu (ls'' := [some (.ref l0), some (.ref l1), some (.ref l2), some (.ref l3), some (.int l4), none, none, none]) (st' := []) bf266_481 bf266_1404 rfl rfl).trans ?_
  rfl
theorem bk266_538 {w : am_Wd} {l0 : Nat} {l1 : Nat} {l2 : Nat} {l3 : Nat} {l4 : Int32} {s0 : Int32} {s1 : Int32} {s2 : Nat} : am_run 266 538 [some (.ref l0), some (.ref l1), some (.ref l2), some (.ref l3), some (.int l4), none, none, none] [.int s0, .int s1, .ref s2] w = if s0 = nI 0 then am_run 266 545 [some (.ref l0), some (.ref l1), some (.ref l2), some (.ref l3), some (.int l4), none, none, none] [.int s1, .ref s2] w else am_run 266 541 [some (.ref l0), some (.ref l1), some (.ref l2), some (.ref l3), some (.int l4), none, none, none] [.int s1, .ref s2] w := by
  exact bifc bf266_538 rfl bf266_545 bf266_541 rfl rfl rfl
theorem bk266_619 {w : am_Wd} {l0 : Nat} {l1 : Nat} {l2 : Nat} {l3 : Nat} {l4 : Int32} {s0 : Int32} : am_run 266 619 [some (.ref l0), some (.ref l1), some (.ref l2), some (.ref l3), some (.int l4), none, none, none] [.int s0] w = am_run 266 1404 [some (.ref l0), some (.ref l1), some (.ref l2), some (.ref l3), some (.int l4), none, none, none] [] w := by
  refine (bu (ls'' := [some (.ref l0), some (.ref l1), some (.ref l2), some (.ref l3), some (.int l4), none, none, none]) (st' := []) bf266_619 bf266_621 rfl rfl).trans ?_
  refine (bu (ls'' := [some (.ref l0), some (.ref l1), some (.ref l2), some (.ref l3), some (.int l4), none, none, none]) (st' := []) bf266_621 bf266_1404 rfl rfl).trans ?_
  rfl
theorem bk266_675 {w : am_Wd} {l0 : Nat} {l1 : Nat} {l2 : Nat} {l3 : Nat} {l4 : Int32} {s0 : Int32} : am_run 266 675 [some (.ref l0), some (.ref l1), some (.ref l2), some (.ref l3), some (.int l4), none, none, none] [.int s0] w = am_run 266 1404 [some (.ref l0), some (.ref l1), some (.ref l2), some (.ref l3), some (.int l4), none, none, none] [] w := by
  refine (bu (ls'' := [some (.ref l0), some (.ref l1), some (.ref l2), some (.ref l3), some (.int l4), none, none, none]) (st' := []) bf266_675 bf266_677 rfl rfl).trans ?_
  refine (bu (ls'' := [some (.ref l0), some (.ref l1), some (.ref l2), some (.ref l3), some (.int l4), none, none, none]) (st' := []) bf266_677 bf266_1404 rfl rfl).trans ?_
  rfl
theorem bk266_325 {w : am_Wd} {l0 : Nat} {l1 : Nat} {l2 : Nat} {l3 : Nat} {l4 : Int32} {s0 : Int32} {s1 : Nat} : am_run 266 325 [some (.ref l0), some (.ref l1), some (.ref l2), some (.ref l3), some (.int l4), none, none, none] [.int s0, .ref s1] w = am_run 266 326 [some (.ref l0), some (.ref l1), some (.ref l2), some (.ref l3), some (.int l4), none, none, none] [.int (nI 0), .int s0, .ref s1] w := by
  refine (bu (ls'' := [some (.ref l0), some (.ref l1), some (.ref l2), some (.ref l3), some (.int l4), none, none, none]) (st' := [.int (nI 0), .int s0, .ref s1]) bf266_325 bf266_326 rfl rfl).trans ?_
  rfl
theorem bk266_321 {w : am_Wd} {l0 : Nat} {l1 : Nat} {l2 : Nat} {l3 : Nat} {l4 : Int32} {s0 : Int32} {s1 : Nat} : am_run 266 321 [some (.ref l0), some (.ref l1), some (.ref l2), some (.ref l3), some (.int l4), none, none, none] [.int s0, .ref s1] w = am_run 266 326 [some (.ref l0), some (.ref l1), some (.ref l2), some (.ref l3), some (.int l4), none, none, none] [.int (nI 1), .int s0, .ref s1] w := by
  refine (bu (ls'' := [some (.ref l0), some (.ref l1), some (.ref l2), some (.ref l3), some (.int l4), none, none, none]) (st' := [.int (nI 1), .int s0, .ref s1]) bf266_321 bf266_322 rfl rfl).trans ?_
  refine (bu (ls'' := [some (.ref l0), some (.ref l1), some (.ref l2), some (.ref l3), some (.int l4), none, none, none]) (st' := [.int (nI 1), .int s0, .ref s1]) bf266_322 bf266_326 rfl rfl).trans ?_
  rfl
theorem bk266_412 {w : am_Wd} {l0 : Nat} {l1 : Nat} {l2 : Nat} {l3 : Nat} {l4 : Int32} {s0 : Int32} {s1 : Int32} {s2 : Int32} {s3 : Int32} {s4 : Nat} : am_run 266 412 [some (.ref l0), some (.ref l1), some (.ref l2), some (.ref l3), some (.int l4), none, none, none] [.int s0, .int s1, .int s2, .int s3, .ref s4] w = if s0 = nI 0 then am_run 266 419 [some (.ref l0), some (.ref l1), some (.ref l2), some (.ref l3), some (.int l4), none, none, none] [.int s1, .int s2, .int s3, .ref s4] w else am_run 266 415 [some (.ref l0), some (.ref l1), some (.ref l2), some (.ref l3), some (.int l4), none, none, none] [.int s1, .int s2, .int s3, .ref s4] w := by
  exact bifc bf266_412 rfl bf266_419 bf266_415 rfl rfl rfl
theorem bk266_545 {w : am_Wd} {l0 : Nat} {l1 : Nat} {l2 : Nat} {l3 : Nat} {l4 : Int32} {s0 : Int32} {s1 : Nat} : am_run 266 545 [some (.ref l0), some (.ref l1), some (.ref l2), some (.ref l3), some (.int l4), none, none, none] [.int s0, .ref s1] w = am_run 266 546 [some (.ref l0), some (.ref l1), some (.ref l2), some (.ref l3), some (.int l4), none, none, none] [.int (nI 0), .int s0, .ref s1] w := by
  refine (bu (ls'' := [some (.ref l0), some (.ref l1), some (.ref l2), some (.ref l3), some (.int l4), none, none, none]) (st' := [.int (nI 0), .int s0, .ref s1]) bf266_545 bf266_546 rfl rfl).trans ?_
  rfl
theorem bk266_541 {w : am_Wd} {l0 : Nat} {l1 : Nat} {l2 : Nat} {l3 : Nat} {l4 : Int32} {s0 : Int32} {s1 : Nat} : am_run 266 541 [some (.ref l0), some (.ref l1), some (.ref l2), some (.ref l3), some (.int l4), none, none, none] [.int s0, .ref s1] w = am_run 266 546 [some (.ref l0), some (.ref l1), some (.ref l2), some (.ref l3), some (.int l4), none, none, none] [.int (nI 1), .int s0, .ref s1] w := by
  refine (bu (ls'' := [some (.ref l0), some (.ref l1), some (.ref l2), some (.ref l3), some (.int l4), none, none, none]) (st' := [.int (nI 1), .int s0, .ref s1]) bf266_541 bf266_542 rfl rfl).trans ?_
  refine (bu (ls'' := [some (.ref l0), some (.ref l1), some (.ref l2), some (.ref l3), some (.int l4), none, none, none]) (st' := [.int (nI 1), .int s0, .ref s1]) bf266_542 bf266_546 rfl rfl).trans ?_
  rfl
theorem bk266_326 {w : am_Wd} {l0 : Nat} {l1 : Nat} {l2 : Nat} {l3 : Nat} {l4 : Int32} {s0 : Int32} {s1 : Int32} {s2 : Nat} : am_run 266 326 [some (.ref l0), some (.ref l1), some (.ref l2), some (.ref l3), some (.int l4), none, none, none] [.int s0, .int s1, .ref s2] w = (am_ri 0 w l0 (l4 + (nI 3))).bind fun v => am_run 266 332 [some (.ref l0), some (.ref l1), some (.ref l2), some (.ref l3), some (.int l4), none, none, none] (.int v :: [.int s0, .int s1, .ref s2]) w := by
  refine (bu (ls'' := [some (.ref l0), some (.ref l1), some (.ref l2), some (.ref l3), some (.int l4), none, none, none]) (st' := [.ref l0, .int s0, .int s1, .ref s2]) bf266_326 bf266_327 rfl rfl).trans ?_
  refine (bu (ls'' := [some (.ref l0), some (.ref l1), some (.ref l2), some (.ref l3), some (.int l4), none, none, none]) (st' := [.int l4, .ref l0, .int s0, .int s1, .ref s2]) bf266_327 bf266_329 rfl rfl).trans ?_
  refine (bu (ls'' := [some (.ref l0), some (.ref l1), some (.ref l2), some (.ref l3), some (.int l4), none, none, none]) (st' := [.int (nI 3), .int l4, .ref l0, .int s0, .int s1, .ref s2]) bf266_329 bf266_330 rfl rfl).trans ?_
  refine (bu (ls'' := [some (.ref l0), some (.ref l1), some (.ref l2), some (.ref l3), some (.int l4), none, none, none]) (st' := [.int (l4 + (nI 3)), .ref l0, .int s0, .int s1, .ref s2]) bf266_330 bf266_331 rfl rfl).trans ?_
  exact bh bf266_331 bf266_332 rfl (fun _ _ => am_ge_rf w) rfl
theorem bk266_419 {w : am_Wd} {l0 : Nat} {l1 : Nat} {l2 : Nat} {l3 : Nat} {l4 : Int32} {s0 : Int32} {s1 : Int32} {s2 : Int32} {s3 : Nat} : am_run 266 419 [some (.ref l0), some (.ref l1), some (.ref l2), some (.ref l3), some (.int l4), none, none, none] [.int s0, .int s1, .int s2, .ref s3] w = am_run 266 420 [some (.ref l0), some (.ref l1), some (.ref l2), some (.ref l3), some (.int l4), none, none, none] [.int (nI 0), .int s0, .int s1, .int s2, .ref s3] w := by
  refine (bu (ls'' := [some (.ref l0), some (.ref l1), some (.ref l2), some (.ref l3), some (.int l4), none, none, none]) (st' := [.int (nI 0), .int s0, .int s1, .int s2, .ref s3]) bf266_419 bf266_420 rfl rfl).trans ?_
  rfl
theorem bk266_415 {w : am_Wd} {l0 : Nat} {l1 : Nat} {l2 : Nat} {l3 : Nat} {l4 : Int32} {s0 : Int32} {s1 : Int32} {s2 : Int32} {s3 : Nat} : am_run 266 415 [some (.ref l0), some (.ref l1), some (.ref l2), some (.ref l3), some (.int l4), none, none, none] [.int s0, .int s1, .int s2, .ref s3] w = am_run 266 420 [some (.ref l0), some (.ref l1), some (.ref l2), some (.ref l3), some (.int l4), none, none, none] [.int (nI 1), .int s0, .int s1, .int s2, .ref s3] w := by
  refine (bu (ls'' := [some (.ref l0), some (.ref l1), some (.ref l2), some (.ref l3), some (.int l4), none, none, none]) (st' := [.int (nI 1), .int s0, .int s1, .int s2, .ref s3]) bf266_415 bf266_416 rfl rfl).trans ?_
  refine (bu (ls'' := [some (.ref l0), some (.ref l1), some (.ref l2), some (.ref l3), some (.int l4), none, none, none]) (st' := [.int (nI 1), .int s0, .int s1, .int s2, .ref s3]) bf266_416 bf266_420 rfl rfl).trans ?_
  rfl
theorem bk266_546 {w : am_Wd} {l0 : Nat} {l1 : Nat} {l2 : Nat} {l3 : Nat} {l4 : Int32} {s0 : Int32} {s1 : Int32} {s2 : Nat} : am_run 266 546 [some (.ref l0), some (.ref l1), some (.ref l2), some (.ref l3), some (.int l4), none, none, none] [.int s0, .int s1, .ref s2] w = (am_ri 0 w l0 (l4 + (nI 3))).bind fun v => am_run 266 552 [some (.ref l0), some (.ref l1), some (.ref l2), some (.ref l3), some (.int l4), none, none, none] (.int v :: [.int s0, .int s1, .ref s2]) w := by
  refine (bu (ls'' := [some (.ref l0), some (.ref l1), some (.ref l2), some (.ref l3), some (.int l4), none, none, none]) (st' := [.ref l0, .int s0, .int s1, .ref s2]) bf266_546 bf266_547 rfl rfl).trans ?_
  refine (bu (ls'' := [some (.ref l0), some (.ref l1), some (.ref l2), some (.ref l3), some (.int l4), none, none, none]) (st' := [.int l4, .ref l0, .int s0, .int s1, .ref s2]) bf266_547 bf266_549 rfl rfl).trans ?_
  refine (bu (ls'' := [some (.ref l0), some (.ref l1), some (.ref l2), some (.ref l3), some (.int l4), none, none, none]) (st' := [.int (nI 3), .int l4, .ref l0, .int s0, .int s1, .ref s2]) bf266_549 bf266_550 rfl rfl).trans ?_
  refine (bu (ls'' := [some (.ref l0), some (.ref l1), some (.ref l2), some (.ref l3), some (.int l4), none, none, none]) (st' := [.int (l4 + (nI 3)), .ref l0, .int s0, .int s1, .ref s2]) bf266_550 bf266_551 rfl rfl).trans ?_
  exact bh bf266_551 bf266_552 rfl (fun _ _ => am_ge_rf w) rfl
theorem bk266_332 {w : am_Wd} {l0 : Nat} {l1 : Nat} {l2 : Nat} {l3 : Nat} {l4 : Int32} {s0 : Int32} {s1 : Int32} {s2 : Int32} {s3 : Nat} : am_run 266 332 [some (.ref l0), some (.ref l1), some (.ref l2), some (.ref l3), some (.int l4), none, none, none] [.int s0, .int s1, .int s2, .ref s3] w = if s0 = nI 0 then am_run 266 339 [some (.ref l0), some (.ref l1), some (.ref l2), some (.ref l3), some (.int l4), none, none, none] [.int s1, .int s2, .ref s3] w else am_run 266 335 [some (.ref l0), some (.ref l1), some (.ref l2), some (.ref l3), some (.int l4), none, none, none] [.int s1, .int s2, .ref s3] w := by
  exact bifc bf266_332 rfl bf266_339 bf266_335 rfl rfl rfl
theorem bk266_420 {w : am_Wd} {l0 : Nat} {l1 : Nat} {l2 : Nat} {l3 : Nat} {l4 : Int32} {s0 : Int32} {s1 : Int32} {s2 : Int32} {s3 : Int32} {s4 : Nat} : am_run 266 420 [some (.ref l0), some (.ref l1), some (.ref l2), some (.ref l3), some (.int l4), none, none, none] [.int s0, .int s1, .int s2, .int s3, .ref s4] w = (am_kf w s4 11).bind fun _ => (am_x 207 [.ref s4, .int s3, .int s2, .int s1, .int s0] w).bind fun r => bct r fun v w' => am_run 266 423 [some (.ref l0), some (.ref l1), some (.ref l2), some (.ref l3), some (.int l4), none, none, none] (v.toList ++ []) w' := by
  exact bkV bf266_420 bf266_423 rfl (by decide +kernel) (Nat.le_of_ble_eq_true rfl) rfl (bhd rfl)
theorem bk266_552 {w : am_Wd} {l0 : Nat} {l1 : Nat} {l2 : Nat} {l3 : Nat} {l4 : Int32} {s0 : Int32} {s1 : Int32} {s2 : Int32} {s3 : Nat} : am_run 266 552 [some (.ref l0), some (.ref l1), some (.ref l2), some (.ref l3), some (.int l4), none, none, none] [.int s0, .int s1, .int s2, .ref s3] w = if s0 = nI 0 then am_run 266 559 [some (.ref l0), some (.ref l1), some (.ref l2), some (.ref l3), some (.int l4), none, none, none] [.int s1, .int s2, .ref s3] w else am_run 266 555 [some (.ref l0), some (.ref l1), some (.ref l2), some (.ref l3), some (.int l4), none, none, none] [.int s1, .int s2, .ref s3] w := by
  exact bifc bf266_552 rfl bf266_559 bf266_555 rfl rfl rfl
theorem bk266_339 {w : am_Wd} {l0 : Nat} {l1 : Nat} {l2 : Nat} {l3 : Nat} {l4 : Int32} {s0 : Int32} {s1 : Int32} {s2 : Nat} : am_run 266 339 [some (.ref l0), some (.ref l1), some (.ref l2), some (.ref l3), some (.int l4), none, none, none] [.int s0, .int s1, .ref s2] w = am_run 266 340 [some (.ref l0), some (.ref l1), some (.ref l2), some (.ref l3), some (.int l4), none, none, none] [.int (nI 0), .int s0, .int s1, .ref s2] w := by
  refine (bu (ls'' := [some (.ref l0), some (.ref l1), some (.ref l2), some (.ref l3), some (.int l4), none, none, none]) (st' := [.int (nI 0), .int s0, .int s1, .ref s2]) bf266_339 bf266_340 rfl rfl).trans ?_
  rfl
theorem bk266_335 {w : am_Wd} {l0 : Nat} {l1 : Nat} {l2 : Nat} {l3 : Nat} {l4 : Int32} {s0 : Int32} {s1 : Int32} {s2 : Nat} : am_run 266 335 [some (.ref l0), some (.ref l1), some (.ref l2), some (.ref l3), some (.int l4), none, none, none] [.int s0, .int s1, .ref s2] w = am_run 266 340 [some (.ref l0), some (.ref l1), some (.ref l2), some (.ref l3), some (.int l4), none, none, none] [.int (nI 1), .int s0, .int s1, .ref s2] w := by
  refine (bu (ls'' := [some (.ref l0), some (.ref l1), some (.ref l2), some (.ref l3), some (.int l4), none, none, none]) (st' := [.int (nI 1), .int s0, .int s1, .ref s2]) bf266_335 bf266_336 rfl rfl).trans ?_
  refine (bu (ls'' := [some (.ref l0), some (.ref l1), some (.ref l2), some (.ref l3), some (.int l4), none, none, none]) (st' := [.int (nI 1), .int s0, .int s1, .ref s2]) bf266_336 bf266_340 rfl rfl).trans ?_
  rfl
theorem bk266_423 {w : am_Wd} {l0 : Nat} {l1 : Nat} {l2 : Nat} {l3 : Nat} {l4 : Int32} {s0 : Int32} : am_run 266 423 [some (.ref l0), some (.ref l1), some (.ref l2), some (.ref l3), some (.int l4), none, none, none] [.int s0] w = am_run 266 1404 [some (.ref l0), some (.ref l1), some (.ref l2), some (.ref l3), some (.int l4), none, none, none] [] w := by
  refine (bu (ls'' := [some (.ref l0), some (.ref l1), some (.ref l2), some (.ref l3), some (.int l4), none, none, none]) (st' := []) bf266_423 bf266_425 rfl rfl).trans ?_
  refine (bu (ls'' := [some (.ref l0), some (.ref l1), some (.ref l2), some (.ref l3), some (.int l4), none, none, none]) (st' := []) bf266_425 bf266_1404 rfl rfl).trans ?_
  rfl
theorem bk266_559 {w : am_Wd} {l0 : Nat} {l1 : Nat} {l2 : Nat} {l3 : Nat} {l4 : Int32} {s0 : Int32} {s1 : Int32} {s2 : Nat} : am_run 266 559 [some (.ref l0), some (.ref l1), some (.ref l2), some (.ref l3), some (.int l4), none, none, none] [.int s0, .int s1, .ref s2] w = am_run 266 560 [some (.ref l0), some (.ref l1), some (.ref l2), some (.ref l3), some (.int l4), none, none, none] [.int (nI 0), .int s0, .int s1, .ref s2] w := by
  refine (bu (ls'' := [some (.ref l0), some (.ref l1), some (.ref l2), some (.ref l3), some (.int l4), none, none, none]) (st' := [.int (nI 0), .int s0, .int s1, .ref s2]) bf266_559 bf266_560 rfl rfl).trans ?_
  rfl
theorem bk266_555 {w : am_Wd} {l0 : Nat} {l1 : Nat} {l2 : Nat} {l3 : Nat} {l4 : Int32} {s0 : Int32} {s1 : Int32} {s2 : Nat} : am_run 266 555 [some (.ref l0), some (.ref l1), some (.ref l2), some (.ref l3), some (.int l4), none, none, none] [.int s0, .int s1, .ref s2] w = am_run 266 560 [some (.ref l0), some (.ref l1), some (.ref l2), some (.ref l3), some (.int l4), none, none, none] [.int (nI 1), .int s0, .int s1, .ref s2] w := by
  refine (bu (ls'' := [some (.ref l0), some (.ref l1), some (.ref l2), some (.ref l3), some (.int l4), none, none, none]) (st' := [.int (nI 1), .int s0, .int s1, .ref s2]) bf266_555 bf266_556 rfl rfl).trans ?_
  refine (bu (ls'' := [some (.ref l0), some (.ref l1), some (.ref l2), some (.ref l3), some (.int l4), none, none, none]) (st' := [.int (nI 1), .int s0, .int s1, .ref s2]) bf266_556 bf266_560 rfl rfl).trans ?_
  rfl
theorem bk266_340 {w : am_Wd} {l0 : Nat} {l1 : Nat} {l2 : Nat} {l3 : Nat} {l4 : Int32} {s0 : Int32} {s1 : Int32} {s2 : Int32} {s3 : Nat} : am_run 266 340 [some (.ref l0), some (.ref l1), some (.ref l2), some (.ref l3), some (.int l4), none, none, none] [.int s0, .int s1, .int s2, .ref s3] w = (am_kf w s3 11).bind fun _ => (am_x 144 [.ref s3, .int s2, .int s1, .int s0] w).bind fun r => bct r fun v w' => am_run 266 343 [some (.ref l0), some (.ref l1), some (.ref l2), some (.ref l3), some (.int l4), none, none, none] (v.toList ++ []) w' := by
  exact bkV bf266_340 bf266_343 rfl (by decide +kernel) (Nat.le_of_ble_eq_true rfl) rfl (bhd rfl)
theorem bk266_560 {w : am_Wd} {l0 : Nat} {l1 : Nat} {l2 : Nat} {l3 : Nat} {l4 : Int32} {s0 : Int32} {s1 : Int32} {s2 : Int32} {s3 : Nat} : am_run 266 560 [some (.ref l0), some (.ref l1), some (.ref l2), some (.ref l3), some (.int l4), none, none, none] [.int s0, .int s1, .int s2, .ref s3] w = (am_kf w s3 11).bind fun _ => (am_x 261 [.ref s3, .int s2, .int s1, .int s0] w).bind fun r => bct r fun v w' => am_run 266 563 [some (.ref l0), some (.ref l1), some (.ref l2), some (.ref l3), some (.int l4), none, none, none] (v.toList ++ []) w' := by
  exact bkV bf266_560 bf266_563 rfl (by decide +kernel) (Nat.le_of_ble_eq_true rfl) rfl (bhd rfl)
theorem bk266_343 {w : am_Wd} {l0 : Nat} {l1 : Nat} {l2 : Nat} {l3 : Nat} {l4 : Int32} {s0 : Int32} : am_run 266 343 [some (.ref l0), some (.ref l1), some (.ref l2), some (.ref l3), some (.int l4), none, none, none] [.int s0] w = am_run 266 1404 [some (.ref l0), some (.ref l1), some (.ref l2), some (.ref l3), some (.int l4), none, none, none] [] w := by
  refine (bu (ls'' := [some (.ref l0), some (.ref l1), some (.ref l2), some (.ref l3), some (.int l4), none, none, none]) (st' := []) bf266_343 bf266_345 rfl rfl).trans ?_
  refine (bu (ls'' := [some (.ref l0), some (.ref l1), some (.ref l2), some (.ref l3), some (.int l4), none, none, none]) (st' := []) bf266_345 bf266_1404 rfl rfl).trans ?_
  rfl
theorem bk266_563 {w : am_Wd} {l0 : Nat} {l1 : Nat} {l2 : Nat} {l3 : Nat} {l4 : Int32} {s0 : Int32} : am_run 266 563 [some (.ref l0), some (.ref l1), some (.ref l2), some (.ref l3), some (.int l4), none, none, none] [.int s0] w = am_run 266 1404 [some (.ref l0), some (.ref l1), some (.ref l2), some (.ref l3), some (.int l4), none, none, none] [] w := by
  refine (bu (ls'' := [some (.ref l0), some (.ref l1), some (.ref l2), some (.ref l3), some (.int l4), none, none, none]) (st' := []) bf266_563 bf266_565 rfl rfl).trans ?_
  refine (bu (ls'' := [some (.ref l0), some (.ref l1), some (.ref l2), some (.ref l3), some (.int l4), none, none, none]) (st' := []) bf266_565 bf266_1404 rfl rfl).trans ?_
  rfl
theorem bx0 {w : am_Wd} {a0 : Nat} : am_x 0 [.ref a0] w = am_run 0 0 [some (.ref a0)] [] w :=
  congrArg (fun l => am_run 0 0 l [] w) (bnr (ls := am_xp [.ref a0] ++ List.replicate (am_ml 0 - (am_xp [.ref a0]).length) none) (ls' := [some (.ref a0)]) bf0_0 rfl)
theorem bx1 {w : am_Wd} {a0 : Nat} : am_x 1 [.ref a0] w = am_run 1 0 [some (.ref a0), none] [] w :=
  congrArg (fun l => am_run 1 0 l [] w) (bnr (ls := am_xp [.ref a0] ++ List.replicate (am_ml 1 - (am_xp [.ref a0]).length) none) (ls' := [some (.ref a0), none]) bf1_0 rfl)
theorem bx2 {w : am_Wd} {a0 : Nat} {a1 : Int32} : am_x 2 [.ref a0, .int a1] w = am_run 2 0 [some (.ref a0), some (.int a1), none] [] w :=
  congrArg (fun l => am_run 2 0 l [] w) (bnr (ls := am_xp [.ref a0, .int a1] ++ List.replicate (am_ml 2 - (am_xp [.ref a0, .int a1]).length) none) (ls' := [some (.ref a0), some (.int a1), none]) bf2_0 rfl)
theorem bx3 {w : am_Wd} {a0 : Nat} : am_x 3 [.ref a0] w = am_run 3 0 [some (.ref a0), none, none, none] [] w :=
  congrArg (fun l => am_run 3 0 l [] w) (bnr (ls := am_xp [.ref a0] ++ List.replicate (am_ml 3 - (am_xp [.ref a0]).length) none) (ls' := [some (.ref a0), none, none, none]) bf3_0 rfl)
theorem bx4 {w : am_Wd} {a0 : Nat} : am_x 4 [.ref a0] w = am_run 4 0 [some (.ref a0), none, none, none] [] w :=
  congrArg (fun l => am_run 4 0 l [] w) (bnr (ls := am_xp [.ref a0] ++ List.replicate (am_ml 4 - (am_xp [.ref a0]).length) none) (ls' := [some (.ref a0), none, none, none]) bf4_0 rfl)
theorem bx5 {w : am_Wd} {a0 : Nat} : am_x 5 [.ref a0] w = am_run 5 0 [some (.ref a0), none, none, none] [] w :=
  congrArg (fun l => am_run 5 0 l [] w) (bnr (ls := am_xp [.ref a0] ++ List.replicate (am_ml 5 - (am_xp [.ref a0]).length) none) (ls' := [some (.ref a0), none, none, none]) bf5_0 rfl)
theorem bx6 {w : am_Wd} {a0 : Nat} : am_x 6 [.ref a0] w = am_run 6 0 [some (.ref a0)] [] w :=
  congrArg (fun l => am_run 6 0 l [] w) (bnr (ls := am_xp [.ref a0] ++ List.replicate (am_ml 6 - (am_xp [.ref a0]).length) none) (ls' := [some (.ref a0)]) bf6_0 rfl)
theorem bx7 {w : am_Wd} {a0 : Int32} : am_x 7 [.int a0] w = am_run 7 0 [some (.int a0)] [] w :=
  congrArg (fun l => am_run 7 0 l [] w) (bnr (ls := am_xp [.int a0] ++ List.replicate (am_ml 7 - (am_xp [.int a0]).length) none) (ls' := [some (.int a0)]) bf7_0 rfl)
theorem bx8 {w : am_Wd} {a0 : Nat} {a1 : Int32} {a2 : Int32} {a3 : Int32} : am_x 8 [.ref a0, .int a1, .int a2, .int a3] w = am_run 8 0 [some (.ref a0), some (.int a1), some (.int a2), some (.int a3), none, none] [] w :=
  congrArg (fun l => am_run 8 0 l [] w) (bnr (ls := am_xp [.ref a0, .int a1, .int a2, .int a3] ++ List.replicate (am_ml 8 - (am_xp [.ref a0, .int a1, .int a2, .int a3]).length) none) (ls' := [some (.ref a0), some (.int a1), some (.int a2), some (.int a3), none, none]) bf8_0 rfl)
theorem bx9 {w : am_Wd} {a0 : Int32} {a1 : Int32} : am_x 9 [.int a0, .int a1] w = am_run 9 0 [some (.int a0), some (.int a1)] [] w :=
  congrArg (fun l => am_run 9 0 l [] w) (bnr (ls := am_xp [.int a0, .int a1] ++ List.replicate (am_ml 9 - (am_xp [.int a0, .int a1]).length) none) (ls' := [some (.int a0), some (.int a1)]) bf9_0 rfl)
theorem bx10 {w : am_Wd} {a0 : Nat} {a1 : Int32} : am_x 10 [.ref a0, .int a1] w = am_run 10 0 [some (.ref a0), some (.int a1), none, none] [] w :=
  congrArg (fun l => am_run 10 0 l [] w) (bnr (ls := am_xp [.ref a0, .int a1] ++ List.replicate (am_ml 10 - (am_xp [.ref a0, .int a1]).length) none) (ls' := [some (.ref a0), some (.int a1), none, none]) bf10_0 rfl)
theorem bx11 {w : am_Wd} {a0 : Int64} {a1 : Int32} : am_x 11 [.long a0, .int a1] w = am_run 11 0 [some (.long a0), none, some (.int a1)] [] w :=
  congrArg (fun l => am_run 11 0 l [] w) (bnr (ls := am_xp [.long a0, .int a1] ++ List.replicate (am_ml 11 - (am_xp [.long a0, .int a1]).length) none) (ls' := [some (.long a0), none, some (.int a1)]) bf11_0 rfl)
theorem bx12 {w : am_Wd}  : am_x 12 [] w = am_run 12 0 [] [] w :=
  congrArg (fun l => am_run 12 0 l [] w) (bnr (ls := am_xp [] ++ List.replicate (am_ml 12 - (am_xp []).length) none) (ls' := []) bf12_0 rfl)
theorem bx13 {w : am_Wd} {a0 : Int32} {a1 : Int32} : am_x 13 [.int a0, .int a1] w = am_run 13 0 [some (.int a0), some (.int a1), none, none] [] w :=
  congrArg (fun l => am_run 13 0 l [] w) (bnr (ls := am_xp [.int a0, .int a1] ++ List.replicate (am_ml 13 - (am_xp [.int a0, .int a1]).length) none) (ls' := [some (.int a0), some (.int a1), none, none]) bf13_0 rfl)
theorem bx14 {w : am_Wd} {a0 : Int64} {a1 : Int32} : am_x 14 [.long a0, .int a1] w = am_run 14 0 [some (.long a0), none, some (.int a1)] [] w :=
  congrArg (fun l => am_run 14 0 l [] w) (bnr (ls := am_xp [.long a0, .int a1] ++ List.replicate (am_ml 14 - (am_xp [.long a0, .int a1]).length) none) (ls' := [some (.long a0), none, some (.int a1)]) bf14_0 rfl)
theorem bx15 {w : am_Wd} {a0 : Int32} {a1 : Int32} : am_x 15 [.int a0, .int a1] w = am_run 15 0 [some (.int a0), some (.int a1)] [] w :=
  congrArg (fun l => am_run 15 0 l [] w) (bnr (ls := am_xp [.int a0, .int a1] ++ List.replicate (am_ml 15 - (am_xp [.int a0, .int a1]).length) none) (ls' := [some (.int a0), some (.int a1)]) bf15_0 rfl)
theorem bx16 {w : am_Wd} {a0 : Int32} {a1 : Int32} : am_x 16 [.int a0, .int a1] w = am_run 16 0 [some (.int a0), some (.int a1), none, none] [] w :=
  congrArg (fun l => am_run 16 0 l [] w) (bnr (ls := am_xp [.int a0, .int a1] ++ List.replicate (am_ml 16 - (am_xp [.int a0, .int a1]).length) none) (ls' := [some (.int a0), some (.int a1), none, none]) bf16_0 rfl)
theorem bx17 {w : am_Wd} {a0 : Nat} : am_x 17 [.ref a0] w = am_run 17 0 [some (.ref a0)] [] w :=
  congrArg (fun l => am_run 17 0 l [] w) (bnr (ls := am_xp [.ref a0] ++ List.replicate (am_ml 17 - (am_xp [.ref a0]).length) none) (ls' := [some (.ref a0)]) bf17_0 rfl)
theorem bx18 {w : am_Wd} {a0 : Nat} : am_x 18 [.ref a0] w = am_run 18 0 [some (.ref a0)] [] w :=
  congrArg (fun l => am_run 18 0 l [] w) (bnr (ls := am_xp [.ref a0] ++ List.replicate (am_ml 18 - (am_xp [.ref a0]).length) none) (ls' := [some (.ref a0)]) bf18_0 rfl)
theorem bx19 {w : am_Wd} {a0 : Int32} : am_x 19 [.int a0] w = am_run 19 0 [some (.int a0)] [] w :=
  congrArg (fun l => am_run 19 0 l [] w) (bnr (ls := am_xp [.int a0] ++ List.replicate (am_ml 19 - (am_xp [.int a0]).length) none) (ls' := [some (.int a0)]) bf19_0 rfl)
theorem bx20 {w : am_Wd} {a0 : Nat} {a1 : Int32} {a2 : Int32} {a3 : Int32} : am_x 20 [.ref a0, .int a1, .int a2, .int a3] w = am_run 20 0 [some (.ref a0), some (.int a1), some (.int a2), some (.int a3), none, none] [] w :=
  congrArg (fun l => am_run 20 0 l [] w) (bnr (ls := am_xp [.ref a0, .int a1, .int a2, .int a3] ++ List.replicate (am_ml 20 - (am_xp [.ref a0, .int a1, .int a2, .int a3]).length) none) (ls' := [some (.ref a0), some (.int a1), some (.int a2), some (.int a3), none, none]) bf20_0 rfl)
theorem bx21 {w : am_Wd} {a0 : Nat} {a1 : Int32} {a2 : Int32} : am_x 21 [.ref a0, .int a1, .int a2] w = am_run 21 0 [some (.ref a0), some (.int a1), some (.int a2)] [] w :=
  congrArg (fun l => am_run 21 0 l [] w) (bnr (ls := am_xp [.ref a0, .int a1, .int a2] ++ List.replicate (am_ml 21 - (am_xp [.ref a0, .int a1, .int a2]).length) none) (ls' := [some (.ref a0), some (.int a1), some (.int a2)]) bf21_0 rfl)
theorem bx22 {w : am_Wd} {a0 : Nat} {a1 : Int32} : am_x 22 [.ref a0, .int a1] w = am_run 22 0 [some (.ref a0), some (.int a1)] [] w :=
  congrArg (fun l => am_run 22 0 l [] w) (bnr (ls := am_xp [.ref a0, .int a1] ++ List.replicate (am_ml 22 - (am_xp [.ref a0, .int a1]).length) none) (ls' := [some (.ref a0), some (.int a1)]) bf22_0 rfl)
theorem bx23 {w : am_Wd} {a0 : Nat} {a1 : Int64} : am_x 23 [.ref a0, .long a1] w = am_run 23 0 [some (.ref a0), some (.long a1), none, none, none, none, none, none, none, none, none] [] w :=
  congrArg (fun l => am_run 23 0 l [] w) (bnr (ls := am_xp [.ref a0, .long a1] ++ List.replicate (am_ml 23 - (am_xp [.ref a0, .long a1]).length) none) (ls' := [some (.ref a0), some (.long a1), none, none, none, none, none, none, none, none, none]) bf23_0 rfl)
theorem bx24 {w : am_Wd} {a0 : Nat} : am_x 24 [.ref a0] w = am_run 24 0 [some (.ref a0)] [] w :=
  congrArg (fun l => am_run 24 0 l [] w) (bnr (ls := am_xp [.ref a0] ++ List.replicate (am_ml 24 - (am_xp [.ref a0]).length) none) (ls' := [some (.ref a0)]) bf24_0 rfl)
theorem bx25 {w : am_Wd} {a0 : Int64} {a1 : Int64} : am_x 25 [.long a0, .long a1] w = am_run 25 0 [some (.long a0), none, some (.long a1), none] [] w :=
  congrArg (fun l => am_run 25 0 l [] w) (bnr (ls := am_xp [.long a0, .long a1] ++ List.replicate (am_ml 25 - (am_xp [.long a0, .long a1]).length) none) (ls' := [some (.long a0), none, some (.long a1), none]) bf25_0 rfl)
theorem bx26 {w : am_Wd} {a0 : Int32} : am_x 26 [.int a0] w = am_run 26 0 [some (.int a0)] [] w :=
  congrArg (fun l => am_run 26 0 l [] w) (bnr (ls := am_xp [.int a0] ++ List.replicate (am_ml 26 - (am_xp [.int a0]).length) none) (ls' := [some (.int a0)]) bf26_0 rfl)
theorem bx27 {w : am_Wd} {a0 : Int32} : am_x 27 [.int a0] w = am_run 27 0 [some (.int a0)] [] w :=
  congrArg (fun l => am_run 27 0 l [] w) (bnr (ls := am_xp [.int a0] ++ List.replicate (am_ml 27 - (am_xp [.int a0]).length) none) (ls' := [some (.int a0)]) bf27_0 rfl)
theorem bx28 {w : am_Wd} {a0 : Int32} : am_x 28 [.int a0] w = am_run 28 0 [some (.int a0)] [] w :=
  congrArg (fun l => am_run 28 0 l [] w) (bnr (ls := am_xp [.int a0] ++ List.replicate (am_ml 28 - (am_xp [.int a0]).length) none) (ls' := [some (.int a0)]) bf28_0 rfl)
theorem bx29 {w : am_Wd} {a0 : Int32} : am_x 29 [.int a0] w = am_run 29 0 [some (.int a0)] [] w :=
  congrArg (fun l => am_run 29 0 l [] w) (bnr (ls := am_xp [.int a0] ++ List.replicate (am_ml 29 - (am_xp [.int a0]).length) none) (ls' := [some (.int a0)]) bf29_0 rfl)
theorem bx30 {w : am_Wd} {a0 : Int32} : am_x 30 [.int a0] w = am_run 30 0 [some (.int a0)] [] w :=
  congrArg (fun l => am_run 30 0 l [] w) (bnr (ls := am_xp [.int a0] ++ List.replicate (am_ml 30 - (am_xp [.int a0]).length) none) (ls' := [some (.int a0)]) bf30_0 rfl)
theorem bx31 {w : am_Wd} {a0 : Nat} {a1 : Int32} : am_x 31 [.ref a0, .int a1] w = am_run 31 0 [some (.ref a0), some (.int a1)] [] w :=
  congrArg (fun l => am_run 31 0 l [] w) (bnr (ls := am_xp [.ref a0, .int a1] ++ List.replicate (am_ml 31 - (am_xp [.ref a0, .int a1]).length) none) (ls' := [some (.ref a0), some (.int a1)]) bf31_0 rfl)
theorem bx32 {w : am_Wd} {a0 : Nat} {a1 : Nat} : am_x 32 [.ref a0, .ref a1] w = am_run 32 0 [some (.ref a0), some (.ref a1)] [] w :=
  congrArg (fun l => am_run 32 0 l [] w) (bnr (ls := am_xp [.ref a0, .ref a1] ++ List.replicate (am_ml 32 - (am_xp [.ref a0, .ref a1]).length) none) (ls' := [some (.ref a0), some (.ref a1)]) bf32_0 rfl)
theorem bx33 {w : am_Wd} {a0 : Nat} : am_x 33 [.ref a0] w = am_run 33 0 [some (.ref a0)] [] w :=
  congrArg (fun l => am_run 33 0 l [] w) (bnr (ls := am_xp [.ref a0] ++ List.replicate (am_ml 33 - (am_xp [.ref a0]).length) none) (ls' := [some (.ref a0)]) bf33_0 rfl)
theorem bx34 {w : am_Wd} {a0 : Int32} : am_x 34 [.int a0] w = am_run 34 0 [some (.int a0)] [] w :=
  congrArg (fun l => am_run 34 0 l [] w) (bnr (ls := am_xp [.int a0] ++ List.replicate (am_ml 34 - (am_xp [.int a0]).length) none) (ls' := [some (.int a0)]) bf34_0 rfl)
theorem bx35 {w : am_Wd} {a0 : Nat} : am_x 35 [.ref a0] w = am_run 35 0 [some (.ref a0)] [] w :=
  congrArg (fun l => am_run 35 0 l [] w) (bnr (ls := am_xp [.ref a0] ++ List.replicate (am_ml 35 - (am_xp [.ref a0]).length) none) (ls' := [some (.ref a0)]) bf35_0 rfl)
theorem bx36 {w : am_Wd} {a0 : Nat} : am_x 36 [.ref a0] w = am_run 36 0 [some (.ref a0)] [] w :=
  congrArg (fun l => am_run 36 0 l [] w) (bnr (ls := am_xp [.ref a0] ++ List.replicate (am_ml 36 - (am_xp [.ref a0]).length) none) (ls' := [some (.ref a0)]) bf36_0 rfl)
theorem bx37 {w : am_Wd} {a0 : Nat} : am_x 37 [.ref a0] w = am_run 37 0 [some (.ref a0), none, none, none, none, none] [] w :=
  congrArg (fun l => am_run 37 0 l [] w) (bnr (ls := am_xp [.ref a0] ++ List.replicate (am_ml 37 - (am_xp [.ref a0]).length) none) (ls' := [some (.ref a0), none, none, none, none, none]) bf37_0 rfl)
theorem bx38 {w : am_Wd} {a0 : Nat} : am_x 38 [.ref a0] w = am_run 38 0 [some (.ref a0)] [] w :=
  congrArg (fun l => am_run 38 0 l [] w) (bnr (ls := am_xp [.ref a0] ++ List.replicate (am_ml 38 - (am_xp [.ref a0]).length) none) (ls' := [some (.ref a0)]) bf38_0 rfl)
theorem bx39 {w : am_Wd} {a0 : Int32} {a1 : Int32} {a2 : Int32} : am_x 39 [.int a0, .int a1, .int a2] w = am_run 39 0 [some (.int a0), some (.int a1), some (.int a2)] [] w :=
  congrArg (fun l => am_run 39 0 l [] w) (bnr (ls := am_xp [.int a0, .int a1, .int a2] ++ List.replicate (am_ml 39 - (am_xp [.int a0, .int a1, .int a2]).length) none) (ls' := [some (.int a0), some (.int a1), some (.int a2)]) bf39_0 rfl)
theorem bx40 {w : am_Wd} {a0 : Nat} {a1 : Int32} {a2 : Int32} : am_x 40 [.ref a0, .int a1, .int a2] w = am_run 40 0 [some (.ref a0), some (.int a1), some (.int a2)] [] w :=
  congrArg (fun l => am_run 40 0 l [] w) (bnr (ls := am_xp [.ref a0, .int a1, .int a2] ++ List.replicate (am_ml 40 - (am_xp [.ref a0, .int a1, .int a2]).length) none) (ls' := [some (.ref a0), some (.int a1), some (.int a2)]) bf40_0 rfl)
theorem bx41 {w : am_Wd} {a0 : Int32} : am_x 41 [.int a0] w = am_run 41 0 [some (.int a0)] [] w :=
  congrArg (fun l => am_run 41 0 l [] w) (bnr (ls := am_xp [.int a0] ++ List.replicate (am_ml 41 - (am_xp [.int a0]).length) none) (ls' := [some (.int a0)]) bf41_0 rfl)
theorem bx42 {w : am_Wd} {a0 : Nat} {a1 : Int32} {a2 : Int32} : am_x 42 [.ref a0, .int a1, .int a2] w = am_run 42 0 [some (.ref a0), some (.int a1), some (.int a2)] [] w :=
  congrArg (fun l => am_run 42 0 l [] w) (bnr (ls := am_xp [.ref a0, .int a1, .int a2] ++ List.replicate (am_ml 42 - (am_xp [.ref a0, .int a1, .int a2]).length) none) (ls' := [some (.ref a0), some (.int a1), some (.int a2)]) bf42_0 rfl)
theorem bx43 {w : am_Wd} {a0 : Int32} {a1 : Int32} : am_x 43 [.int a0, .int a1] w = am_run 43 0 [some (.int a0), some (.int a1)] [] w :=
  congrArg (fun l => am_run 43 0 l [] w) (bnr (ls := am_xp [.int a0, .int a1] ++ List.replicate (am_ml 43 - (am_xp [.int a0, .int a1]).length) none) (ls' := [some (.int a0), some (.int a1)]) bf43_0 rfl)
theorem bx44 {w : am_Wd} {a0 : Nat} : am_x 44 [.ref a0] w = am_run 44 0 [some (.ref a0), none, none, none, none, none] [] w :=
  congrArg (fun l => am_run 44 0 l [] w) (bnr (ls := am_xp [.ref a0] ++ List.replicate (am_ml 44 - (am_xp [.ref a0]).length) none) (ls' := [some (.ref a0), none, none, none, none, none]) bf44_0 rfl)
theorem bx45 {w : am_Wd} {a0 : Nat} : am_x 45 [.ref a0] w = am_run 45 0 [some (.ref a0), none] [] w :=
  congrArg (fun l => am_run 45 0 l [] w) (bnr (ls := am_xp [.ref a0] ++ List.replicate (am_ml 45 - (am_xp [.ref a0]).length) none) (ls' := [some (.ref a0), none]) bf45_0 rfl)
theorem bx46 {w : am_Wd} {a0 : Nat} {a1 : Nat} : am_x 46 [.ref a0, .ref a1] w = am_run 46 0 [some (.ref a0), some (.ref a1)] [] w :=
  congrArg (fun l => am_run 46 0 l [] w) (bnr (ls := am_xp [.ref a0, .ref a1] ++ List.replicate (am_ml 46 - (am_xp [.ref a0, .ref a1]).length) none) (ls' := [some (.ref a0), some (.ref a1)]) bf46_0 rfl)
theorem bx47 {w : am_Wd} {a0 : Nat} : am_x 47 [.ref a0] w = am_run 47 0 [some (.ref a0)] [] w :=
  congrArg (fun l => am_run 47 0 l [] w) (bnr (ls := am_xp [.ref a0] ++ List.replicate (am_ml 47 - (am_xp [.ref a0]).length) none) (ls' := [some (.ref a0)]) bf47_0 rfl)
theorem bx48 {w : am_Wd} {a0 : Nat} {a1 : Nat} {a2 : Int32} : am_x 48 [.ref a0, .ref a1, .int a2] w = am_run 48 0 [none, some (.ref a1), some (.int a2), none, none, none] [] w :=
  congrArg (fun l => am_run 48 0 l [] w) (bnr (ls := am_xp [.ref a0, .ref a1, .int a2] ++ List.replicate (am_ml 48 - (am_xp [.ref a0, .ref a1, .int a2]).length) none) (ls' := [none, some (.ref a1), some (.int a2), none, none, none]) bf48_0 rfl)
theorem bx49 {w : am_Wd} {a0 : Nat} {a1 : Nat} : am_x 49 [.ref a0, .ref a1] w = am_run 49 0 [none, some (.ref a1), none, none] [] w :=
  congrArg (fun l => am_run 49 0 l [] w) (bnr (ls := am_xp [.ref a0, .ref a1] ++ List.replicate (am_ml 49 - (am_xp [.ref a0, .ref a1]).length) none) (ls' := [none, some (.ref a1), none, none]) bf49_0 rfl)
theorem bx50 {w : am_Wd} {a0 : Int64} : am_x 50 [.long a0] w = am_run 50 0 [some (.long a0), none] [] w :=
  congrArg (fun l => am_run 50 0 l [] w) (bnr (ls := am_xp [.long a0] ++ List.replicate (am_ml 50 - (am_xp [.long a0]).length) none) (ls' := [some (.long a0), none]) bf50_0 rfl)
theorem bx51 {w : am_Wd} {a0 : Nat} : am_x 51 [.ref a0] w = am_run 51 0 [some (.ref a0)] [] w :=
  congrArg (fun l => am_run 51 0 l [] w) (bnr (ls := am_xp [.ref a0] ++ List.replicate (am_ml 51 - (am_xp [.ref a0]).length) none) (ls' := [some (.ref a0)]) bf51_0 rfl)
theorem bx52 {w : am_Wd} {a0 : Nat} : am_x 52 [.ref a0] w = am_run 52 0 [some (.ref a0)] [] w :=
  congrArg (fun l => am_run 52 0 l [] w) (bnr (ls := am_xp [.ref a0] ++ List.replicate (am_ml 52 - (am_xp [.ref a0]).length) none) (ls' := [some (.ref a0)]) bf52_0 rfl)
theorem bx53 {w : am_Wd} {a0 : Nat} {a1 : Nat} : am_x 53 [.ref a0, .ref a1] w = am_run 53 0 [some (.ref a0), some (.ref a1)] [] w :=
  congrArg (fun l => am_run 53 0 l [] w) (bnr (ls := am_xp [.ref a0, .ref a1] ++ List.replicate (am_ml 53 - (am_xp [.ref a0, .ref a1]).length) none) (ls' := [some (.ref a0), some (.ref a1)]) bf53_0 rfl)
theorem bx54 {w : am_Wd} {a0 : Nat} {a1 : Int32} : am_x 54 [.ref a0, .int a1] w = am_run 54 0 [some (.ref a0), some (.int a1)] [] w :=
  congrArg (fun l => am_run 54 0 l [] w) (bnr (ls := am_xp [.ref a0, .int a1] ++ List.replicate (am_ml 54 - (am_xp [.ref a0, .int a1]).length) none) (ls' := [some (.ref a0), some (.int a1)]) bf54_0 rfl)
theorem bx55 {w : am_Wd} {a0 : Nat} {a1 : Int32} : am_x 55 [.ref a0, .int a1] w = am_run 55 0 [some (.ref a0), some (.int a1), none, none] [] w :=
  congrArg (fun l => am_run 55 0 l [] w) (bnr (ls := am_xp [.ref a0, .int a1] ++ List.replicate (am_ml 55 - (am_xp [.ref a0, .int a1]).length) none) (ls' := [some (.ref a0), some (.int a1), none, none]) bf55_0 rfl)
theorem bx56 {w : am_Wd} {a0 : Nat} : am_x 56 [.ref a0] w = am_run 56 0 [some (.ref a0)] [] w :=
  congrArg (fun l => am_run 56 0 l [] w) (bnr (ls := am_xp [.ref a0] ++ List.replicate (am_ml 56 - (am_xp [.ref a0]).length) none) (ls' := [some (.ref a0)]) bf56_0 rfl)
theorem bx57 {w : am_Wd} {a0 : Nat} : am_x 57 [.ref a0] w = am_run 57 0 [some (.ref a0)] [] w :=
  congrArg (fun l => am_run 57 0 l [] w) (bnr (ls := am_xp [.ref a0] ++ List.replicate (am_ml 57 - (am_xp [.ref a0]).length) none) (ls' := [some (.ref a0)]) bf57_0 rfl)
theorem bx58 {w : am_Wd} {a0 : Int32} {a1 : Int32} {a2 : Nat} : am_x 58 [.int a0, .int a1, .ref a2] w = am_run 58 0 [some (.int a0), some (.int a1), some (.ref a2)] [] w :=
  congrArg (fun l => am_run 58 0 l [] w) (bnr (ls := am_xp [.int a0, .int a1, .ref a2] ++ List.replicate (am_ml 58 - (am_xp [.int a0, .int a1, .ref a2]).length) none) (ls' := [some (.int a0), some (.int a1), some (.ref a2)]) bf58_0 rfl)
theorem bx72 {w : am_Wd} {a0 : Nat} : am_x 72 [.ref a0] w = am_run 72 0 [some (.ref a0), none, none] [] w :=
  congrArg (fun l => am_run 72 0 l [] w) (bnr (ls := am_xp [.ref a0] ++ List.replicate (am_ml 72 - (am_xp [.ref a0]).length) none) (ls' := [some (.ref a0), none, none]) bf72_0 rfl)
theorem bx73 {w : am_Wd} {a0 : Nat} {a1 : Int32} : am_x 73 [.ref a0, .int a1] w = am_run 73 0 [some (.ref a0), some (.int a1)] [] w :=
  congrArg (fun l => am_run 73 0 l [] w) (bnr (ls := am_xp [.ref a0, .int a1] ++ List.replicate (am_ml 73 - (am_xp [.ref a0, .int a1]).length) none) (ls' := [some (.ref a0), some (.int a1)]) bf73_0 rfl)
theorem bx74 {w : am_Wd} {a0 : Nat} {a1 : Int32} {a2 : Int32} {a3 : Nat} : am_x 74 [.ref a0, .int a1, .int a2, .ref a3] w = am_run 74 0 [some (.ref a0), some (.int a1), some (.int a2), some (.ref a3), none, none] [] w :=
  congrArg (fun l => am_run 74 0 l [] w) (bnr (ls := am_xp [.ref a0, .int a1, .int a2, .ref a3] ++ List.replicate (am_ml 74 - (am_xp [.ref a0, .int a1, .int a2, .ref a3]).length) none) (ls' := [some (.ref a0), some (.int a1), some (.int a2), some (.ref a3), none, none]) bf74_0 rfl)
theorem bx75 {w : am_Wd} {a0 : Nat} {a1 : Int32} {a2 : Int32} {a3 : Nat} : am_x 75 [.ref a0, .int a1, .int a2, .ref a3] w = am_run 75 0 [some (.ref a0), some (.int a1), some (.int a2), some (.ref a3), none, none, none] [] w :=
  congrArg (fun l => am_run 75 0 l [] w) (bnr (ls := am_xp [.ref a0, .int a1, .int a2, .ref a3] ++ List.replicate (am_ml 75 - (am_xp [.ref a0, .int a1, .int a2, .ref a3]).length) none) (ls' := [some (.ref a0), some (.int a1), some (.int a2), some (.ref a3), none, none, none]) bf75_0 rfl)
theorem bx76 {w : am_Wd} {a0 : Int32} {a1 : Int32} : am_x 76 [.int a0, .int a1] w = am_run 76 0 [some (.int a0), some (.int a1), none, none] [] w :=
  congrArg (fun l => am_run 76 0 l [] w) (bnr (ls := am_xp [.int a0, .int a1] ++ List.replicate (am_ml 76 - (am_xp [.int a0, .int a1]).length) none) (ls' := [some (.int a0), some (.int a1), none, none]) bf76_0 rfl)
theorem bx77 {w : am_Wd} {a0 : Nat} {a1 : Int32} : am_x 77 [.ref a0, .int a1] w = am_run 77 0 [some (.ref a0), some (.int a1), none, none] [] w :=
  congrArg (fun l => am_run 77 0 l [] w) (bnr (ls := am_xp [.ref a0, .int a1] ++ List.replicate (am_ml 77 - (am_xp [.ref a0, .int a1]).length) none) (ls' := [some (.ref a0), some (.int a1), none, none]) bf77_0 rfl)
theorem bx78 {w : am_Wd} {a0 : Nat} : am_x 78 [.ref a0] w = am_run 78 0 [some (.ref a0), none] [] w :=
  congrArg (fun l => am_run 78 0 l [] w) (bnr (ls := am_xp [.ref a0] ++ List.replicate (am_ml 78 - (am_xp [.ref a0]).length) none) (ls' := [some (.ref a0), none]) bf78_0 rfl)
theorem bx79 {w : am_Wd} {a0 : Nat} {a1 : Int32} : am_x 79 [.ref a0, .int a1] w = am_run 79 0 [some (.ref a0), some (.int a1), none] [] w :=
  congrArg (fun l => am_run 79 0 l [] w) (bnr (ls := am_xp [.ref a0, .int a1] ++ List.replicate (am_ml 79 - (am_xp [.ref a0, .int a1]).length) none) (ls' := [some (.ref a0), some (.int a1), none]) bf79_0 rfl)
theorem bx80 {w : am_Wd} {a0 : Nat} : am_x 80 [.ref a0] w = am_run 80 0 [some (.ref a0)] [] w :=
  congrArg (fun l => am_run 80 0 l [] w) (bnr (ls := am_xp [.ref a0] ++ List.replicate (am_ml 80 - (am_xp [.ref a0]).length) none) (ls' := [some (.ref a0)]) bf80_0 rfl)
theorem bx81 {w : am_Wd} {a0 : Nat} {a1 : Int32} {a2 : Int32} : am_x 81 [.ref a0, .int a1, .int a2] w = am_run 81 0 [some (.ref a0), some (.int a1), some (.int a2)] [] w :=
  congrArg (fun l => am_run 81 0 l [] w) (bnr (ls := am_xp [.ref a0, .int a1, .int a2] ++ List.replicate (am_ml 81 - (am_xp [.ref a0, .int a1, .int a2]).length) none) (ls' := [some (.ref a0), some (.int a1), some (.int a2)]) bf81_0 rfl)
theorem bx82 {w : am_Wd} {a0 : Nat} {a1 : Int32} {a2 : Int32} {a3 : Int32} : am_x 82 [.ref a0, .int a1, .int a2, .int a3] w = am_run 82 0 [some (.ref a0), some (.int a1), some (.int a2), some (.int a3), none] [] w :=
  congrArg (fun l => am_run 82 0 l [] w) (bnr (ls := am_xp [.ref a0, .int a1, .int a2, .int a3] ++ List.replicate (am_ml 82 - (am_xp [.ref a0, .int a1, .int a2, .int a3]).length) none) (ls' := [some (.ref a0), some (.int a1), some (.int a2), some (.int a3), none]) bf82_0 rfl)
theorem bx83 {w : am_Wd} {a0 : Nat} : am_x 83 [.ref a0] w = am_run 83 0 [some (.ref a0)] [] w :=
  congrArg (fun l => am_run 83 0 l [] w) (bnr (ls := am_xp [.ref a0] ++ List.replicate (am_ml 83 - (am_xp [.ref a0]).length) none) (ls' := [some (.ref a0)]) bf83_0 rfl)
theorem bx84 {w : am_Wd} {a0 : Nat} : am_x 84 [.ref a0] w = am_run 84 0 [some (.ref a0)] [] w :=
  congrArg (fun l => am_run 84 0 l [] w) (bnr (ls := am_xp [.ref a0] ++ List.replicate (am_ml 84 - (am_xp [.ref a0]).length) none) (ls' := [some (.ref a0)]) bf84_0 rfl)
theorem bx85 {w : am_Wd} {a0 : Nat} : am_x 85 [.ref a0] w = am_run 85 0 [some (.ref a0)] [] w :=
  congrArg (fun l => am_run 85 0 l [] w) (bnr (ls := am_xp [.ref a0] ++ List.replicate (am_ml 85 - (am_xp [.ref a0]).length) none) (ls' := [some (.ref a0)]) bf85_0 rfl)
theorem bx86 {w : am_Wd} {a0 : Nat} {a1 : Nat} : am_x 86 [.ref a0, .ref a1] w = am_run 86 0 [some (.ref a0), some (.ref a1), none, none] [] w :=
  congrArg (fun l => am_run 86 0 l [] w) (bnr (ls := am_xp [.ref a0, .ref a1] ++ List.replicate (am_ml 86 - (am_xp [.ref a0, .ref a1]).length) none) (ls' := [some (.ref a0), some (.ref a1), none, none]) bf86_0 rfl)
theorem bx87 {w : am_Wd} {a0 : Nat} {a1 : Int32} {a2 : Int32} : am_x 87 [.ref a0, .int a1, .int a2] w = am_run 87 0 [some (.ref a0), some (.int a1), some (.int a2), none, none, none] [] w :=
  congrArg (fun l => am_run 87 0 l [] w) (bnr (ls := am_xp [.ref a0, .int a1, .int a2] ++ List.replicate (am_ml 87 - (am_xp [.ref a0, .int a1, .int a2]).length) none) (ls' := [some (.ref a0), some (.int a1), some (.int a2), none, none, none]) bf87_0 rfl)
theorem bx88 {w : am_Wd} {a0 : Int64} : am_x 88 [.long a0] w = am_run 88 0 [some (.long a0), none, none] [] w :=
  congrArg (fun l => am_run 88 0 l [] w) (bnr (ls := am_xp [.long a0] ++ List.replicate (am_ml 88 - (am_xp [.long a0]).length) none) (ls' := [some (.long a0), none, none]) bf88_0 rfl)
theorem bx89 {w : am_Wd} {a0 : Nat} : am_x 89 [.ref a0] w = am_run 89 0 [some (.ref a0)] [] w :=
  congrArg (fun l => am_run 89 0 l [] w) (bnr (ls := am_xp [.ref a0] ++ List.replicate (am_ml 89 - (am_xp [.ref a0]).length) none) (ls' := [some (.ref a0)]) bf89_0 rfl)
theorem bx90 {w : am_Wd} {a0 : Nat} {a1 : Int32} {a2 : Int32} {a3 : Int32} : am_x 90 [.ref a0, .int a1, .int a2, .int a3] w = am_run 90 0 [some (.ref a0), some (.int a1), some (.int a2), some (.int a3)] [] w :=
  congrArg (fun l => am_run 90 0 l [] w) (bnr (ls := am_xp [.ref a0, .int a1, .int a2, .int a3] ++ List.replicate (am_ml 90 - (am_xp [.ref a0, .int a1, .int a2, .int a3]).length) none) (ls' := [some (.ref a0), some (.int a1), some (.int a2), some (.int a3)]) bf90_0 rfl)
theorem bx91 {w : am_Wd} {a0 : Nat} {a1 : Int32} : am_x 91 [.ref a0, .int a1] w = am_run 91 0 [some (.ref a0), some (.int a1), none] [] w :=
  congrArg (fun l => am_run 91 0 l [] w) (bnr (ls := am_xp [.ref a0, .int a1] ++ List.replicate (am_ml 91 - (am_xp [.ref a0, .int a1]).length) none) (ls' := [some (.ref a0), some (.int a1), none]) bf91_0 rfl)
theorem bx92 {w : am_Wd} {a0 : Int32} {a1 : Int32} {a2 : Int32} : am_x 92 [.int a0, .int a1, .int a2] w = am_run 92 0 [some (.int a0), some (.int a1), some (.int a2)] [] w :=
  congrArg (fun l => am_run 92 0 l [] w) (bnr (ls := am_xp [.int a0, .int a1, .int a2] ++ List.replicate (am_ml 92 - (am_xp [.int a0, .int a1, .int a2]).length) none) (ls' := [some (.int a0), some (.int a1), some (.int a2)]) bf92_0 rfl)
theorem bx93 {w : am_Wd} {a0 : Nat} : am_x 93 [.ref a0] w = am_run 93 0 [some (.ref a0), none] [] w :=
  congrArg (fun l => am_run 93 0 l [] w) (bnr (ls := am_xp [.ref a0] ++ List.replicate (am_ml 93 - (am_xp [.ref a0]).length) none) (ls' := [some (.ref a0), none]) bf93_0 rfl)
theorem bx94 {w : am_Wd} {a0 : Nat} {a1 : Int32} : am_x 94 [.ref a0, .int a1] w = am_run 94 0 [some (.ref a0), some (.int a1), none, none] [] w :=
  congrArg (fun l => am_run 94 0 l [] w) (bnr (ls := am_xp [.ref a0, .int a1] ++ List.replicate (am_ml 94 - (am_xp [.ref a0, .int a1]).length) none) (ls' := [some (.ref a0), some (.int a1), none, none]) bf94_0 rfl)
theorem bx95 {w : am_Wd} {a0 : Nat} : am_x 95 [.ref a0] w = am_run 95 0 [some (.ref a0), none] [] w :=
  congrArg (fun l => am_run 95 0 l [] w) (bnr (ls := am_xp [.ref a0] ++ List.replicate (am_ml 95 - (am_xp [.ref a0]).length) none) (ls' := [some (.ref a0), none]) bf95_0 rfl)
theorem bx96 {w : am_Wd} {a0 : Nat} {a1 : Int32} {a2 : Int32} : am_x 96 [.ref a0, .int a1, .int a2] w = am_run 96 0 [some (.ref a0), some (.int a1), some (.int a2)] [] w :=
  congrArg (fun l => am_run 96 0 l [] w) (bnr (ls := am_xp [.ref a0, .int a1, .int a2] ++ List.replicate (am_ml 96 - (am_xp [.ref a0, .int a1, .int a2]).length) none) (ls' := [some (.ref a0), some (.int a1), some (.int a2)]) bf96_0 rfl)
theorem bx97 {w : am_Wd} {a0 : Int32} : am_x 97 [.int a0] w = am_run 97 0 [some (.int a0)] [] w :=
  congrArg (fun l => am_run 97 0 l [] w) (bnr (ls := am_xp [.int a0] ++ List.replicate (am_ml 97 - (am_xp [.int a0]).length) none) (ls' := [some (.int a0)]) bf97_0 rfl)
theorem bx98 {w : am_Wd} {a0 : Int32} : am_x 98 [.int a0] w = am_run 98 0 [some (.int a0)] [] w :=
  congrArg (fun l => am_run 98 0 l [] w) (bnr (ls := am_xp [.int a0] ++ List.replicate (am_ml 98 - (am_xp [.int a0]).length) none) (ls' := [some (.int a0)]) bf98_0 rfl)
theorem bx99 {w : am_Wd} {a0 : Nat} {a1 : Int32} : am_x 99 [.ref a0, .int a1] w = am_run 99 0 [some (.ref a0), some (.int a1)] [] w :=
  congrArg (fun l => am_run 99 0 l [] w) (bnr (ls := am_xp [.ref a0, .int a1] ++ List.replicate (am_ml 99 - (am_xp [.ref a0, .int a1]).length) none) (ls' := [some (.ref a0), some (.int a1)]) bf99_0 rfl)
theorem bx100 {w : am_Wd} {a0 : Int32} {a1 : Int32} : am_x 100 [.int a0, .int a1] w = am_run 100 0 [some (.int a0), some (.int a1), none, none] [] w :=
  congrArg (fun l => am_run 100 0 l [] w) (bnr (ls := am_xp [.int a0, .int a1] ++ List.replicate (am_ml 100 - (am_xp [.int a0, .int a1]).length) none) (ls' := [some (.int a0), some (.int a1), none, none]) bf100_0 rfl)
theorem bx101 {w : am_Wd} {a0 : Nat} {a1 : Int32} {a2 : Int32} : am_x 101 [.ref a0, .int a1, .int a2] w = am_run 101 0 [some (.ref a0), some (.int a1), some (.int a2)] [] w :=
  congrArg (fun l => am_run 101 0 l [] w) (bnr (ls := am_xp [.ref a0, .int a1, .int a2] ++ List.replicate (am_ml 101 - (am_xp [.ref a0, .int a1, .int a2]).length) none) (ls' := [some (.ref a0), some (.int a1), some (.int a2)]) bf101_0 rfl)
theorem bx102 {w : am_Wd} {a0 : Nat} {a1 : Nat} : am_x 102 [.ref a0, .ref a1] w = am_run 102 0 [some (.ref a0), some (.ref a1)] [] w :=
  congrArg (fun l => am_run 102 0 l [] w) (bnr (ls := am_xp [.ref a0, .ref a1] ++ List.replicate (am_ml 102 - (am_xp [.ref a0, .ref a1]).length) none) (ls' := [some (.ref a0), some (.ref a1)]) bf102_0 rfl)
theorem bx103 {w : am_Wd} {a0 : Nat} : am_x 103 [.ref a0] w = am_run 103 0 [some (.ref a0), none, none] [] w :=
  congrArg (fun l => am_run 103 0 l [] w) (bnr (ls := am_xp [.ref a0] ++ List.replicate (am_ml 103 - (am_xp [.ref a0]).length) none) (ls' := [some (.ref a0), none, none]) bf103_0 rfl)
theorem bx104 {w : am_Wd} {a0 : Nat} : am_x 104 [.ref a0] w = am_run 104 0 [some (.ref a0)] [] w :=
  congrArg (fun l => am_run 104 0 l [] w) (bnr (ls := am_xp [.ref a0] ++ List.replicate (am_ml 104 - (am_xp [.ref a0]).length) none) (ls' := [some (.ref a0)]) bf104_0 rfl)
theorem bx105 {w : am_Wd} {a0 : Nat} : am_x 105 [.ref a0] w = am_run 105 0 [some (.ref a0)] [] w :=
  congrArg (fun l => am_run 105 0 l [] w) (bnr (ls := am_xp [.ref a0] ++ List.replicate (am_ml 105 - (am_xp [.ref a0]).length) none) (ls' := [some (.ref a0)]) bf105_0 rfl)
theorem bx106 {w : am_Wd} {a0 : Nat} : am_x 106 [.ref a0] w = am_run 106 0 [some (.ref a0)] [] w :=
  congrArg (fun l => am_run 106 0 l [] w) (bnr (ls := am_xp [.ref a0] ++ List.replicate (am_ml 106 - (am_xp [.ref a0]).length) none) (ls' := [some (.ref a0)]) bf106_0 rfl)
theorem bx107 {w : am_Wd} {a0 : Int32} {a1 : Int32} : am_x 107 [.int a0, .int a1] w = am_run 107 0 [some (.int a0), some (.int a1)] [] w :=
  congrArg (fun l => am_run 107 0 l [] w) (bnr (ls := am_xp [.int a0, .int a1] ++ List.replicate (am_ml 107 - (am_xp [.int a0, .int a1]).length) none) (ls' := [some (.int a0), some (.int a1)]) bf107_0 rfl)
theorem bx118 {w : am_Wd} {a0 : Nat} : am_x 118 [.ref a0] w = am_run 118 0 [some (.ref a0), none] [] w :=
  congrArg (fun l => am_run 118 0 l [] w) (bnr (ls := am_xp [.ref a0] ++ List.replicate (am_ml 118 - (am_xp [.ref a0]).length) none) (ls' := [some (.ref a0), none]) bf118_0 rfl)
theorem bx119 {w : am_Wd} {a0 : Nat} {a1 : Int32} {a2 : Nat} : am_x 119 [.ref a0, .int a1, .ref a2] w = am_run 119 0 [some (.ref a0), some (.int a1), some (.ref a2), none] [] w :=
  congrArg (fun l => am_run 119 0 l [] w) (bnr (ls := am_xp [.ref a0, .int a1, .ref a2] ++ List.replicate (am_ml 119 - (am_xp [.ref a0, .int a1, .ref a2]).length) none) (ls' := [some (.ref a0), some (.int a1), some (.ref a2), none]) bf119_0 rfl)
theorem bx120 {w : am_Wd} {a0 : Nat} {a1 : Int32} {a2 : Nat} : am_x 120 [.ref a0, .int a1, .ref a2] w = am_run 120 0 [some (.ref a0), some (.int a1), some (.ref a2), none] [] w :=
  congrArg (fun l => am_run 120 0 l [] w) (bnr (ls := am_xp [.ref a0, .int a1, .ref a2] ++ List.replicate (am_ml 120 - (am_xp [.ref a0, .int a1, .ref a2]).length) none) (ls' := [some (.ref a0), some (.int a1), some (.ref a2), none]) bf120_0 rfl)
theorem bx121 {w : am_Wd} {a0 : Nat} {a1 : Int32} {a2 : Nat} : am_x 121 [.ref a0, .int a1, .ref a2] w = am_run 121 0 [some (.ref a0), some (.int a1), some (.ref a2), none, none] [] w :=
  congrArg (fun l => am_run 121 0 l [] w) (bnr (ls := am_xp [.ref a0, .int a1, .ref a2] ++ List.replicate (am_ml 121 - (am_xp [.ref a0, .int a1, .ref a2]).length) none) (ls' := [some (.ref a0), some (.int a1), some (.ref a2), none, none]) bf121_0 rfl)
theorem bx122 {w : am_Wd} {a0 : Nat} {a1 : Int32} {a2 : Nat} : am_x 122 [.ref a0, .int a1, .ref a2] w = am_run 122 0 [some (.ref a0), some (.int a1), some (.ref a2), none, none] [] w :=
  congrArg (fun l => am_run 122 0 l [] w) (bnr (ls := am_xp [.ref a0, .int a1, .ref a2] ++ List.replicate (am_ml 122 - (am_xp [.ref a0, .int a1, .ref a2]).length) none) (ls' := [some (.ref a0), some (.int a1), some (.ref a2), none, none]) bf122_0 rfl)
theorem bx123 {w : am_Wd} {a0 : Nat} {a1 : Int32} {a2 : Int32} {a3 : Int32} {a4 : Int32} : am_x 123 [.ref a0, .int a1, .int a2, .int a3, .int a4] w = am_run 123 0 [some (.ref a0), some (.int a1), some (.int a2), some (.int a3), some (.int a4), none] [] w :=
  congrArg (fun l => am_run 123 0 l [] w) (bnr (ls := am_xp [.ref a0, .int a1, .int a2, .int a3, .int a4] ++ List.replicate (am_ml 123 - (am_xp [.ref a0, .int a1, .int a2, .int a3, .int a4]).length) none) (ls' := [some (.ref a0), some (.int a1), some (.int a2), some (.int a3), some (.int a4), none]) bf123_0 rfl)
theorem bx124 {w : am_Wd} {a0 : Nat} {a1 : Int32} {a2 : Int32} : am_x 124 [.ref a0, .int a1, .int a2] w = am_run 124 0 [some (.ref a0), some (.int a1), some (.int a2), none] [] w :=
  congrArg (fun l => am_run 124 0 l [] w) (bnr (ls := am_xp [.ref a0, .int a1, .int a2] ++ List.replicate (am_ml 124 - (am_xp [.ref a0, .int a1, .int a2]).length) none) (ls' := [some (.ref a0), some (.int a1), some (.int a2), none]) bf124_0 rfl)
theorem bx125 {w : am_Wd} {a0 : Nat} {a1 : Int32} {a2 : Int32} : am_x 125 [.ref a0, .int a1, .int a2] w = am_run 125 0 [some (.ref a0), some (.int a1), some (.int a2), none] [] w :=
  congrArg (fun l => am_run 125 0 l [] w) (bnr (ls := am_xp [.ref a0, .int a1, .int a2] ++ List.replicate (am_ml 125 - (am_xp [.ref a0, .int a1, .int a2]).length) none) (ls' := [some (.ref a0), some (.int a1), some (.int a2), none]) bf125_0 rfl)
theorem bx126 {w : am_Wd} {a0 : Nat} {a1 : Int32} {a2 : Int32} {a3 : Int32} : am_x 126 [.ref a0, .int a1, .int a2, .int a3] w = am_run 126 0 [some (.ref a0), some (.int a1), some (.int a2), some (.int a3), none] [] w :=
  congrArg (fun l => am_run 126 0 l [] w) (bnr (ls := am_xp [.ref a0, .int a1, .int a2, .int a3] ++ List.replicate (am_ml 126 - (am_xp [.ref a0, .int a1, .int a2, .int a3]).length) none) (ls' := [some (.ref a0), some (.int a1), some (.int a2), some (.int a3), none]) bf126_0 rfl)
theorem bx127 {w : am_Wd} {a0 : Nat} {a1 : Int32} {a2 : Int32} {a3 : Int32} {a4 : Int32} : am_x 127 [.ref a0, .int a1, .int a2, .int a3, .int a4] w = am_run 127 0 [some (.ref a0), some (.int a1), some (.int a2), some (.int a3), some (.int a4)] [] w :=
  congrArg (fun l => am_run 127 0 l [] w) (bnr (ls := am_xp [.ref a0, .int a1, .int a2, .int a3, .int a4] ++ List.replicate (am_ml 127 - (am_xp [.ref a0, .int a1, .int a2, .int a3, .int a4]).length) none) (ls' := [some (.ref a0), some (.int a1), some (.int a2), some (.int a3), some (.int a4)]) bf127_0 rfl)
theorem bx128 {w : am_Wd} {a0 : Nat} : am_x 128 [.ref a0] w = am_run 128 0 [some (.ref a0)] [] w :=
  congrArg (fun l => am_run 128 0 l [] w) (bnr (ls := am_xp [.ref a0] ++ List.replicate (am_ml 128 - (am_xp [.ref a0]).length) none) (ls' := [some (.ref a0)]) bf128_0 rfl)
theorem bx129 {w : am_Wd} {a0 : Nat} : am_x 129 [.ref a0] w = am_run 129 0 [some (.ref a0)] [] w :=
  congrArg (fun l => am_run 129 0 l [] w) (bnr (ls := am_xp [.ref a0] ++ List.replicate (am_ml 129 - (am_xp [.ref a0]).length) none) (ls' := [some (.ref a0)]) bf129_0 rfl)
theorem bx130 {w : am_Wd} {a0 : Nat} : am_x 130 [.ref a0] w = am_run 130 0 [some (.ref a0), none] [] w :=
  congrArg (fun l => am_run 130 0 l [] w) (bnr (ls := am_xp [.ref a0] ++ List.replicate (am_ml 130 - (am_xp [.ref a0]).length) none) (ls' := [some (.ref a0), none]) bf130_0 rfl)
theorem bx131 {w : am_Wd} {a0 : Nat} {a1 : Nat} : am_x 131 [.ref a0, .ref a1] w = am_run 131 0 [some (.ref a0), some (.ref a1), none, none, none, none] [] w :=
  congrArg (fun l => am_run 131 0 l [] w) (bnr (ls := am_xp [.ref a0, .ref a1] ++ List.replicate (am_ml 131 - (am_xp [.ref a0, .ref a1]).length) none) (ls' := [some (.ref a0), some (.ref a1), none, none, none, none]) bf131_0 rfl)
theorem bx132 {w : am_Wd} {a0 : Nat} {a1 : Int32} : am_x 132 [.ref a0, .int a1] w = am_run 132 0 [some (.ref a0), some (.int a1), none, none, none, none, none, none] [] w :=
  congrArg (fun l => am_run 132 0 l [] w) (bnr (ls := am_xp [.ref a0, .int a1] ++ List.replicate (am_ml 132 - (am_xp [.ref a0, .int a1]).length) none) (ls' := [some (.ref a0), some (.int a1), none, none, none, none, none, none]) bf132_0 rfl)
theorem bx133 {w : am_Wd} {a0 : Nat} {a1 : Int32} {a2 : Int32} : am_x 133 [.ref a0, .int a1, .int a2] w = am_run 133 0 [some (.ref a0), some (.int a1), some (.int a2), none, none] [] w :=
  congrArg (fun l => am_run 133 0 l [] w) (bnr (ls := am_xp [.ref a0, .int a1, .int a2] ++ List.replicate (am_ml 133 - (am_xp [.ref a0, .int a1, .int a2]).length) none) (ls' := [some (.ref a0), some (.int a1), some (.int a2), none, none]) bf133_0 rfl)
theorem bx134 {w : am_Wd} {a0 : Nat} {a1 : Int32} : am_x 134 [.ref a0, .int a1] w = am_run 134 0 [some (.ref a0), some (.int a1), none, none] [] w :=
  congrArg (fun l => am_run 134 0 l [] w) (bnr (ls := am_xp [.ref a0, .int a1] ++ List.replicate (am_ml 134 - (am_xp [.ref a0, .int a1]).length) none) (ls' := [some (.ref a0), some (.int a1), none, none]) bf134_0 rfl)
theorem bx135 {w : am_Wd} {a0 : Nat} {a1 : Int32} : am_x 135 [.ref a0, .int a1] w = am_run 135 0 [some (.ref a0), some (.int a1)] [] w :=
  congrArg (fun l => am_run 135 0 l [] w) (bnr (ls := am_xp [.ref a0, .int a1] ++ List.replicate (am_ml 135 - (am_xp [.ref a0, .int a1]).length) none) (ls' := [some (.ref a0), some (.int a1)]) bf135_0 rfl)
theorem bx136 {w : am_Wd} {a0 : Nat} {a1 : Int32} : am_x 136 [.ref a0, .int a1] w = am_run 136 0 [some (.ref a0), some (.int a1)] [] w :=
  congrArg (fun l => am_run 136 0 l [] w) (bnr (ls := am_xp [.ref a0, .int a1] ++ List.replicate (am_ml 136 - (am_xp [.ref a0, .int a1]).length) none) (ls' := [some (.ref a0), some (.int a1)]) bf136_0 rfl)
theorem bx137 {w : am_Wd} {a0 : Nat} {a1 : Int32} {a2 : Int32} {a3 : Int32} : am_x 137 [.ref a0, .int a1, .int a2, .int a3] w = am_run 137 0 [some (.ref a0), some (.int a1), some (.int a2), some (.int a3), none] [] w :=
  congrArg (fun l => am_run 137 0 l [] w) (bnr (ls := am_xp [.ref a0, .int a1, .int a2, .int a3] ++ List.replicate (am_ml 137 - (am_xp [.ref a0, .int a1, .int a2, .int a3]).length) none) (ls' := [some (.ref a0), some (.int a1), some (.int a2), some (.int a3), none]) bf137_0 rfl)
theorem bx138 {w : am_Wd} {a0 : Nat} {a1 : Int32} {a2 : Int32} : am_x 138 [.ref a0, .int a1, .int a2] w = am_run 138 0 [some (.ref a0), some (.int a1), some (.int a2), none] [] w :=
  congrArg (fun l => am_run 138 0 l [] w) (bnr (ls := am_xp [.ref a0, .int a1, .int a2] ++ List.replicate (am_ml 138 - (am_xp [.ref a0, .int a1, .int a2]).length) none) (ls' := [some (.ref a0), some (.int a1), some (.int a2), none]) bf138_0 rfl)
theorem bx139 {w : am_Wd} {a0 : Nat} {a1 : Int32} {a2 : Int32} : am_x 139 [.ref a0, .int a1, .int a2] w = am_run 139 0 [some (.ref a0), some (.int a1), some (.int a2), none] [] w :=
  congrArg (fun l => am_run 139 0 l [] w) (bnr (ls := am_xp [.ref a0, .int a1, .int a2] ++ List.replicate (am_ml 139 - (am_xp [.ref a0, .int a1, .int a2]).length) none) (ls' := [some (.ref a0), some (.int a1), some (.int a2), none]) bf139_0 rfl)
theorem bx140 {w : am_Wd} {a0 : Nat} {a1 : Int32} {a2 : Int32} {a3 : Int32} : am_x 140 [.ref a0, .int a1, .int a2, .int a3] w = am_run 140 0 [some (.ref a0), some (.int a1), some (.int a2), some (.int a3), none] [] w :=
  congrArg (fun l => am_run 140 0 l [] w) (bnr (ls := am_xp [.ref a0, .int a1, .int a2, .int a3] ++ List.replicate (am_ml 140 - (am_xp [.ref a0, .int a1, .int a2, .int a3]).length) none) (ls' := [some (.ref a0), some (.int a1), some (.int a2), some (.int a3), none]) bf140_0 rfl)
theorem bx141 {w : am_Wd} {a0 : Nat} {a1 : Nat} : am_x 141 [.ref a0, .ref a1] w = am_run 141 0 [some (.ref a0), some (.ref a1)] [] w :=
  congrArg (fun l => am_run 141 0 l [] w) (bnr (ls := am_xp [.ref a0, .ref a1] ++ List.replicate (am_ml 141 - (am_xp [.ref a0, .ref a1]).length) none) (ls' := [some (.ref a0), some (.ref a1)]) bf141_0 rfl)
theorem bx142 {w : am_Wd} {a0 : Int32} {a1 : Int32} : am_x 142 [.int a0, .int a1] w = am_run 142 0 [some (.int a0), some (.int a1)] [] w :=
  congrArg (fun l => am_run 142 0 l [] w) (bnr (ls := am_xp [.int a0, .int a1] ++ List.replicate (am_ml 142 - (am_xp [.int a0, .int a1]).length) none) (ls' := [some (.int a0), some (.int a1)]) bf142_0 rfl)
theorem bx143 {w : am_Wd} {a0 : Int32} {a1 : Int32} : am_x 143 [.int a0, .int a1] w = am_run 143 0 [some (.int a0), some (.int a1)] [] w :=
  congrArg (fun l => am_run 143 0 l [] w) (bnr (ls := am_xp [.int a0, .int a1] ++ List.replicate (am_ml 143 - (am_xp [.int a0, .int a1]).length) none) (ls' := [some (.int a0), some (.int a1)]) bf143_0 rfl)
theorem bx144 {w : am_Wd} {a0 : Nat} {a1 : Int32} {a2 : Int32} {a3 : Int32} : am_x 144 [.ref a0, .int a1, .int a2, .int a3] w = am_run 144 0 [some (.ref a0), some (.int a1), some (.int a2), some (.int a3)] [] w :=
  congrArg (fun l => am_run 144 0 l [] w) (bnr (ls := am_xp [.ref a0, .int a1, .int a2, .int a3] ++ List.replicate (am_ml 144 - (am_xp [.ref a0, .int a1, .int a2, .int a3]).length) none) (ls' := [some (.ref a0), some (.int a1), some (.int a2), some (.int a3)]) bf144_0 rfl)
theorem bx145 {w : am_Wd} {a0 : Nat} {a1 : Int32} : am_x 145 [.ref a0, .int a1] w = am_run 145 0 [some (.ref a0), some (.int a1)] [] w :=
  congrArg (fun l => am_run 145 0 l [] w) (bnr (ls := am_xp [.ref a0, .int a1] ++ List.replicate (am_ml 145 - (am_xp [.ref a0, .int a1]).length) none) (ls' := [some (.ref a0), some (.int a1)]) bf145_0 rfl)
theorem bx146 {w : am_Wd} {a0 : Nat} {a1 : Nat} {a2 : Int32} : am_x 146 [.ref a0, .ref a1, .int a2] w = am_run 146 0 [some (.ref a0), some (.ref a1), some (.int a2), none, none, none, none, none, none] [] w :=
  congrArg (fun l => am_run 146 0 l [] w) (bnr (ls := am_xp [.ref a0, .ref a1, .int a2] ++ List.replicate (am_ml 146 - (am_xp [.ref a0, .ref a1, .int a2]).length) none) (ls' := [some (.ref a0), some (.ref a1), some (.int a2), none, none, none, none, none, none]) bf146_0 rfl)
theorem bx147 {w : am_Wd} {a0 : Nat} {a1 : Int32} {a2 : Int32} {a3 : Int32} {a4 : Nat} : am_x 147 [.ref a0, .int a1, .int a2, .int a3, .ref a4] w = am_run 147 0 [some (.ref a0), some (.int a1), some (.int a2), some (.int a3), some (.ref a4), none] [] w :=
  congrArg (fun l => am_run 147 0 l [] w) (bnr (ls := am_xp [.ref a0, .int a1, .int a2, .int a3, .ref a4] ++ List.replicate (am_ml 147 - (am_xp [.ref a0, .int a1, .int a2, .int a3, .ref a4]).length) none) (ls' := [some (.ref a0), some (.int a1), some (.int a2), some (.int a3), some (.ref a4), none]) bf147_0 rfl)
theorem bx148 {w : am_Wd} {a0 : Nat} {a1 : Int32} {a2 : Nat} : am_x 148 [.ref a0, .int a1, .ref a2] w = am_run 148 0 [some (.ref a0), some (.int a1), some (.ref a2), none] [] w :=
  congrArg (fun l => am_run 148 0 l [] w) (bnr (ls := am_xp [.ref a0, .int a1, .ref a2] ++ List.replicate (am_ml 148 - (am_xp [.ref a0, .int a1, .ref a2]).length) none) (ls' := [some (.ref a0), some (.int a1), some (.ref a2), none]) bf148_0 rfl)
theorem bx149 {w : am_Wd} {a0 : Nat} {a1 : Nat} {a2 : Nat} {a3 : Int32} : am_x 149 [.ref a0, .ref a1, .ref a2, .int a3] w = am_run 149 0 [some (.ref a0), some (.ref a1), some (.ref a2), some (.int a3)] [] w :=
  congrArg (fun l => am_run 149 0 l [] w) (bnr (ls := am_xp [.ref a0, .ref a1, .ref a2, .int a3] ++ List.replicate (am_ml 149 - (am_xp [.ref a0, .ref a1, .ref a2, .int a3]).length) none) (ls' := [some (.ref a0), some (.ref a1), some (.ref a2), some (.int a3)]) bf149_0 rfl)
theorem bx150 {w : am_Wd} {a0 : Nat} {a1 : Int32} : am_x 150 [.ref a0, .int a1] w = am_run 150 0 [some (.ref a0), some (.int a1)] [] w :=
  congrArg (fun l => am_run 150 0 l [] w) (bnr (ls := am_xp [.ref a0, .int a1] ++ List.replicate (am_ml 150 - (am_xp [.ref a0, .int a1]).length) none) (ls' := [some (.ref a0), some (.int a1)]) bf150_0 rfl)
theorem bx151 {w : am_Wd} {a0 : Nat} : am_x 151 [.ref a0] w = am_run 151 0 [some (.ref a0)] [] w :=
  congrArg (fun l => am_run 151 0 l [] w) (bnr (ls := am_xp [.ref a0] ++ List.replicate (am_ml 151 - (am_xp [.ref a0]).length) none) (ls' := [some (.ref a0)]) bf151_0 rfl)
theorem bx157 {w : am_Wd} {a0 : Nat} {a1 : Int32} : am_x 157 [.ref a0, .int a1] w = am_run 157 0 [some (.ref a0), some (.int a1), none, none, none] [] w :=
  congrArg (fun l => am_run 157 0 l [] w) (bnr (ls := am_xp [.ref a0, .int a1] ++ List.replicate (am_ml 157 - (am_xp [.ref a0, .int a1]).length) none) (ls' := [some (.ref a0), some (.int a1), none, none, none]) bf157_0 rfl)
theorem bx158 {w : am_Wd} {a0 : Nat} {a1 : Int32} {a2 : Int32} {a3 : Int32} : am_x 158 [.ref a0, .int a1, .int a2, .int a3] w = am_run 158 0 [some (.ref a0), some (.int a1), some (.int a2), some (.int a3), none, none] [] w :=
  congrArg (fun l => am_run 158 0 l [] w) (bnr (ls := am_xp [.ref a0, .int a1, .int a2, .int a3] ++ List.replicate (am_ml 158 - (am_xp [.ref a0, .int a1, .int a2, .int a3]).length) none) (ls' := [some (.ref a0), some (.int a1), some (.int a2), some (.int a3), none, none]) bf158_0 rfl)
theorem bx159 {w : am_Wd} {a0 : Nat} {a1 : Nat} {a2 : Int32} {a3 : Int32} : am_x 159 [.ref a0, .ref a1, .int a2, .int a3] w = am_run 159 0 [some (.ref a0), some (.ref a1), some (.int a2), some (.int a3), none, none, none, none, none] [] w :=
  congrArg (fun l => am_run 159 0 l [] w) (bnr (ls := am_xp [.ref a0, .ref a1, .int a2, .int a3] ++ List.replicate (am_ml 159 - (am_xp [.ref a0, .ref a1, .int a2, .int a3]).length) none) (ls' := [some (.ref a0), some (.ref a1), some (.int a2), some (.int a3), none, none, none, none, none]) bf159_0 rfl)
theorem bx160 {w : am_Wd} {a0 : Nat} {a1 : Int32} : am_x 160 [.ref a0, .int a1] w = am_run 160 0 [some (.ref a0), some (.int a1), none] [] w :=
  congrArg (fun l => am_run 160 0 l [] w) (bnr (ls := am_xp [.ref a0, .int a1] ++ List.replicate (am_ml 160 - (am_xp [.ref a0, .int a1]).length) none) (ls' := [some (.ref a0), some (.int a1), none]) bf160_0 rfl)
theorem bx161 {w : am_Wd} {a0 : Nat} {a1 : Int32} : am_x 161 [.ref a0, .int a1] w = am_run 161 0 [some (.ref a0), some (.int a1), none, none] [] w :=
  congrArg (fun l => am_run 161 0 l [] w) (bnr (ls := am_xp [.ref a0, .int a1] ++ List.replicate (am_ml 161 - (am_xp [.ref a0, .int a1]).length) none) (ls' := [some (.ref a0), some (.int a1), none, none]) bf161_0 rfl)
theorem bx162 {w : am_Wd} {a0 : Nat} : am_x 162 [.ref a0] w = am_run 162 0 [some (.ref a0), none] [] w :=
  congrArg (fun l => am_run 162 0 l [] w) (bnr (ls := am_xp [.ref a0] ++ List.replicate (am_ml 162 - (am_xp [.ref a0]).length) none) (ls' := [some (.ref a0), none]) bf162_0 rfl)
theorem bx163 {w : am_Wd} {a0 : Nat} : am_x 163 [.ref a0] w = am_run 163 0 [some (.ref a0), none] [] w :=
  congrArg (fun l => am_run 163 0 l [] w) (bnr (ls := am_xp [.ref a0] ++ List.replicate (am_ml 163 - (am_xp [.ref a0]).length) none) (ls' := [some (.ref a0), none]) bf163_0 rfl)
theorem bx164 {w : am_Wd} {a0 : Nat} {a1 : Int32} : am_x 164 [.ref a0, .int a1] w = am_run 164 0 [some (.ref a0), some (.int a1), none, none] [] w :=
  congrArg (fun l => am_run 164 0 l [] w) (bnr (ls := am_xp [.ref a0, .int a1] ++ List.replicate (am_ml 164 - (am_xp [.ref a0, .int a1]).length) none) (ls' := [some (.ref a0), some (.int a1), none, none]) bf164_0 rfl)
theorem bx165 {w : am_Wd} {a0 : Nat} {a1 : Int32} : am_x 165 [.ref a0, .int a1] w = am_run 165 0 [some (.ref a0), some (.int a1)] [] w :=
  congrArg (fun l => am_run 165 0 l [] w) (bnr (ls := am_xp [.ref a0, .int a1] ++ List.replicate (am_ml 165 - (am_xp [.ref a0, .int a1]).length) none) (ls' := [some (.ref a0), some (.int a1)]) bf165_0 rfl)
theorem bx166 {w : am_Wd} {a0 : Nat} {a1 : Int32} {a2 : Int32} {a3 : Int32} {a4 : Int32} : am_x 166 [.ref a0, .int a1, .int a2, .int a3, .int a4] w = am_run 166 0 [some (.ref a0), some (.int a1), some (.int a2), some (.int a3), some (.int a4), none] [] w :=
  congrArg (fun l => am_run 166 0 l [] w) (bnr (ls := am_xp [.ref a0, .int a1, .int a2, .int a3, .int a4] ++ List.replicate (am_ml 166 - (am_xp [.ref a0, .int a1, .int a2, .int a3, .int a4]).length) none) (ls' := [some (.ref a0), some (.int a1), some (.int a2), some (.int a3), some (.int a4), none]) bf166_0 rfl)
theorem bx167 {w : am_Wd} {a0 : Nat} {a1 : Int32} {a2 : Int32} {a3 : Int32} {a4 : Int32} : am_x 167 [.ref a0, .int a1, .int a2, .int a3, .int a4] w = am_run 167 0 [some (.ref a0), some (.int a1), some (.int a2), some (.int a3), some (.int a4), none] [] w :=
  congrArg (fun l => am_run 167 0 l [] w) (bnr (ls := am_xp [.ref a0, .int a1, .int a2, .int a3, .int a4] ++ List.replicate (am_ml 167 - (am_xp [.ref a0, .int a1, .int a2, .int a3, .int a4]).length) none) (ls' := [some (.ref a0), some (.int a1), some (.int a2), some (.int a3), some (.int a4), none]) bf167_0 rfl)
theorem bx168 {w : am_Wd} {a0 : Nat} {a1 : Int32} {a2 : Int32} : am_x 168 [.ref a0, .int a1, .int a2] w = am_run 168 0 [some (.ref a0), some (.int a1), some (.int a2), none, none] [] w :=
  congrArg (fun l => am_run 168 0 l [] w) (bnr (ls := am_xp [.ref a0, .int a1, .int a2] ++ List.replicate (am_ml 168 - (am_xp [.ref a0, .int a1, .int a2]).length) none) (ls' := [some (.ref a0), some (.int a1), some (.int a2), none, none]) bf168_0 rfl)
theorem bx169 {w : am_Wd} {a0 : Nat} {a1 : Int32} {a2 : Int32} {a3 : Int32} : am_x 169 [.ref a0, .int a1, .int a2, .int a3] w = am_run 169 0 [some (.ref a0), some (.int a1), some (.int a2), some (.int a3)] [] w :=
  congrArg (fun l => am_run 169 0 l [] w) (bnr (ls := am_xp [.ref a0, .int a1, .int a2, .int a3] ++ List.replicate (am_ml 169 - (am_xp [.ref a0, .int a1, .int a2, .int a3]).length) none) (ls' := [some (.ref a0), some (.int a1), some (.int a2), some (.int a3)]) bf169_0 rfl)
theorem bx170 {w : am_Wd} {a0 : Nat} {a1 : Int32} {a2 : Int32} : am_x 170 [.ref a0, .int a1, .int a2] w = am_run 170 0 [some (.ref a0), some (.int a1), some (.int a2), none] [] w :=
  congrArg (fun l => am_run 170 0 l [] w) (bnr (ls := am_xp [.ref a0, .int a1, .int a2] ++ List.replicate (am_ml 170 - (am_xp [.ref a0, .int a1, .int a2]).length) none) (ls' := [some (.ref a0), some (.int a1), some (.int a2), none]) bf170_0 rfl)
theorem bx171 {w : am_Wd} {a0 : Nat} {a1 : Nat} : am_x 171 [.ref a0, .ref a1] w = am_run 171 0 [some (.ref a0), some (.ref a1), none, none] [] w :=
  congrArg (fun l => am_run 171 0 l [] w) (bnr (ls := am_xp [.ref a0, .ref a1] ++ List.replicate (am_ml 171 - (am_xp [.ref a0, .ref a1]).length) none) (ls' := [some (.ref a0), some (.ref a1), none, none]) bf171_0 rfl)
theorem bx172 {w : am_Wd} {a0 : Nat} : am_x 172 [.ref a0] w = am_run 172 0 [some (.ref a0)] [] w :=
  congrArg (fun l => am_run 172 0 l [] w) (bnr (ls := am_xp [.ref a0] ++ List.replicate (am_ml 172 - (am_xp [.ref a0]).length) none) (ls' := [some (.ref a0)]) bf172_0 rfl)
theorem bx173 {w : am_Wd} {a0 : Nat} {a1 : Int32} {a2 : Int32} : am_x 173 [.ref a0, .int a1, .int a2] w = am_run 173 0 [some (.ref a0), some (.int a1), some (.int a2)] [] w :=
  congrArg (fun l => am_run 173 0 l [] w) (bnr (ls := am_xp [.ref a0, .int a1, .int a2] ++ List.replicate (am_ml 173 - (am_xp [.ref a0, .int a1, .int a2]).length) none) (ls' := [some (.ref a0), some (.int a1), some (.int a2)]) bf173_0 rfl)
theorem bx174 {w : am_Wd} {a0 : Nat} {a1 : Int32} {a2 : Int32} : am_x 174 [.ref a0, .int a1, .int a2] w = am_run 174 0 [some (.ref a0), some (.int a1), some (.int a2)] [] w :=
  congrArg (fun l => am_run 174 0 l [] w) (bnr (ls := am_xp [.ref a0, .int a1, .int a2] ++ List.replicate (am_ml 174 - (am_xp [.ref a0, .int a1, .int a2]).length) none) (ls' := [some (.ref a0), some (.int a1), some (.int a2)]) bf174_0 rfl)
theorem bx175 {w : am_Wd} {a0 : Nat} {a1 : Int32} {a2 : Int32} {a3 : Int32} : am_x 175 [.ref a0, .int a1, .int a2, .int a3] w = am_run 175 0 [some (.ref a0), some (.int a1), some (.int a2), some (.int a3)] [] w :=
  congrArg (fun l => am_run 175 0 l [] w) (bnr (ls := am_xp [.ref a0, .int a1, .int a2, .int a3] ++ List.replicate (am_ml 175 - (am_xp [.ref a0, .int a1, .int a2, .int a3]).length) none) (ls' := [some (.ref a0), some (.int a1), some (.int a2), some (.int a3)]) bf175_0 rfl)
theorem bx176 {w : am_Wd} {a0 : Nat} {a1 : Int32} {a2 : Int32} {a3 : Int32} {a4 : Int32} : am_x 176 [.ref a0, .int a1, .int a2, .int a3, .int a4] w = am_run 176 0 [some (.ref a0), some (.int a1), some (.int a2), some (.int a3), some (.int a4), none, none] [] w :=
  congrArg (fun l => am_run 176 0 l [] w) (bnr (ls := am_xp [.ref a0, .int a1, .int a2, .int a3, .int a4] ++ List.replicate (am_ml 176 - (am_xp [.ref a0, .int a1, .int a2, .int a3, .int a4]).length) none) (ls' := [some (.ref a0), some (.int a1), some (.int a2), some (.int a3), some (.int a4), none, none]) bf176_0 rfl)
theorem bx177 {w : am_Wd} {a0 : Nat} {a1 : Int32} : am_x 177 [.ref a0, .int a1] w = am_run 177 0 [some (.ref a0), some (.int a1), none, none, none] [] w :=
  congrArg (fun l => am_run 177 0 l [] w) (bnr (ls := am_xp [.ref a0, .int a1] ++ List.replicate (am_ml 177 - (am_xp [.ref a0, .int a1]).length) none) (ls' := [some (.ref a0), some (.int a1), none, none, none]) bf177_0 rfl)
theorem bx178 {w : am_Wd} {a0 : Nat} {a1 : Int32} {a2 : Int32} : am_x 178 [.ref a0, .int a1, .int a2] w = am_run 178 0 [some (.ref a0), some (.int a1), some (.int a2), none] [] w :=
  congrArg (fun l => am_run 178 0 l [] w) (bnr (ls := am_xp [.ref a0, .int a1, .int a2] ++ List.replicate (am_ml 178 - (am_xp [.ref a0, .int a1, .int a2]).length) none) (ls' := [some (.ref a0), some (.int a1), some (.int a2), none]) bf178_0 rfl)
theorem bx179 {w : am_Wd} {a0 : Nat} {a1 : Int32} : am_x 179 [.ref a0, .int a1] w = am_run 179 0 [some (.ref a0), some (.int a1), none, none] [] w :=
  congrArg (fun l => am_run 179 0 l [] w) (bnr (ls := am_xp [.ref a0, .int a1] ++ List.replicate (am_ml 179 - (am_xp [.ref a0, .int a1]).length) none) (ls' := [some (.ref a0), some (.int a1), none, none]) bf179_0 rfl)
theorem bx180 {w : am_Wd} {a0 : Nat} {a1 : Int32} {a2 : Int32} : am_x 180 [.ref a0, .int a1, .int a2] w = am_run 180 0 [some (.ref a0), some (.int a1), some (.int a2), none, none, none, none, none, none, none] [] w :=
  congrArg (fun l => am_run 180 0 l [] w) (bnr (ls := am_xp [.ref a0, .int a1, .int a2] ++ List.replicate (am_ml 180 - (am_xp [.ref a0, .int a1, .int a2]).length) none) (ls' := [some (.ref a0), some (.int a1), some (.int a2), none, none, none, none, none, none, none]) bf180_0 rfl)
theorem bx181 {w : am_Wd} {a0 : Nat} {a1 : Int32} {a2 : Int32} {a3 : Int32} : am_x 181 [.ref a0, .int a1, .int a2, .int a3] w = am_run 181 0 [some (.ref a0), some (.int a1), some (.int a2), some (.int a3), none, none] [] w :=
  congrArg (fun l => am_run 181 0 l [] w) (bnr (ls := am_xp [.ref a0, .int a1, .int a2, .int a3] ++ List.replicate (am_ml 181 - (am_xp [.ref a0, .int a1, .int a2, .int a3]).length) none) (ls' := [some (.ref a0), some (.int a1), some (.int a2), some (.int a3), none, none]) bf181_0 rfl)
theorem bx182 {w : am_Wd} {a0 : Nat} {a1 : Int32} {a2 : Int32} : am_x 182 [.ref a0, .int a1, .int a2] w = am_run 182 0 [some (.ref a0), some (.int a1), some (.int a2)] [] w :=
  congrArg (fun l => am_run 182 0 l [] w) (bnr (ls := am_xp [.ref a0, .int a1, .int a2] ++ List.replicate (am_ml 182 - (am_xp [.ref a0, .int a1, .int a2]).length) none) (ls' := [some (.ref a0), some (.int a1), some (.int a2)]) bf182_0 rfl)
theorem bx183 {w : am_Wd} {a0 : Nat} {a1 : Int32} {a2 : Int32} : am_x 183 [.ref a0, .int a1, .int a2] w = am_run 183 0 [some (.ref a0), some (.int a1), some (.int a2)] [] w :=
  congrArg (fun l => am_run 183 0 l [] w) (bnr (ls := am_xp [.ref a0, .int a1, .int a2] ++ List.replicate (am_ml 183 - (am_xp [.ref a0, .int a1, .int a2]).length) none) (ls' := [some (.ref a0), some (.int a1), some (.int a2)]) bf183_0 rfl)
theorem bx184 {w : am_Wd} {a0 : Nat} {a1 : Int32} {a2 : Int32} : am_x 184 [.ref a0, .int a1, .int a2] w = am_run 184 0 [some (.ref a0), some (.int a1), some (.int a2)] [] w :=
  congrArg (fun l => am_run 184 0 l [] w) (bnr (ls := am_xp [.ref a0, .int a1, .int a2] ++ List.replicate (am_ml 184 - (am_xp [.ref a0, .int a1, .int a2]).length) none) (ls' := [some (.ref a0), some (.int a1), some (.int a2)]) bf184_0 rfl)
theorem bx185 {w : am_Wd} {a0 : Nat} {a1 : Int32} : am_x 185 [.ref a0, .int a1] w = am_run 185 0 [some (.ref a0), some (.int a1)] [] w :=
  congrArg (fun l => am_run 185 0 l [] w) (bnr (ls := am_xp [.ref a0, .int a1] ++ List.replicate (am_ml 185 - (am_xp [.ref a0, .int a1]).length) none) (ls' := [some (.ref a0), some (.int a1)]) bf185_0 rfl)
theorem bx186 {w : am_Wd} {a0 : Nat} : am_x 186 [.ref a0] w = am_run 186 0 [some (.ref a0), none, none, none] [] w :=
  congrArg (fun l => am_run 186 0 l [] w) (bnr (ls := am_xp [.ref a0] ++ List.replicate (am_ml 186 - (am_xp [.ref a0]).length) none) (ls' := [some (.ref a0), none, none, none]) bf186_0 rfl)
theorem bx187 {w : am_Wd} {a0 : Nat} {a1 : Int32} {a2 : Int32} {a3 : Nat} : am_x 187 [.ref a0, .int a1, .int a2, .ref a3] w = am_run 187 0 [some (.ref a0), some (.int a1), some (.int a2), some (.ref a3), none] [] w :=
  congrArg (fun l => am_run 187 0 l [] w) (bnr (ls := am_xp [.ref a0, .int a1, .int a2, .ref a3] ++ List.replicate (am_ml 187 - (am_xp [.ref a0, .int a1, .int a2, .ref a3]).length) none) (ls' := [some (.ref a0), some (.int a1), some (.int a2), some (.ref a3), none]) bf187_0 rfl)
theorem bx188 {w : am_Wd} {a0 : Nat} {a1 : Int32} {a2 : Nat} : am_x 188 [.ref a0, .int a1, .ref a2] w = am_run 188 0 [some (.ref a0), some (.int a1), some (.ref a2), none] [] w :=
  congrArg (fun l => am_run 188 0 l [] w) (bnr (ls := am_xp [.ref a0, .int a1, .ref a2] ++ List.replicate (am_ml 188 - (am_xp [.ref a0, .int a1, .ref a2]).length) none) (ls' := [some (.ref a0), some (.int a1), some (.ref a2), none]) bf188_0 rfl)
theorem bx189 {w : am_Wd} {a0 : Nat} {a1 : Int32} {a2 : Nat} : am_x 189 [.ref a0, .int a1, .ref a2] w = am_run 189 0 [some (.ref a0), some (.int a1), some (.ref a2), none] [] w :=
  congrArg (fun l => am_run 189 0 l [] w) (bnr (ls := am_xp [.ref a0, .int a1, .ref a2] ++ List.replicate (am_ml 189 - (am_xp [.ref a0, .int a1, .ref a2]).length) none) (ls' := [some (.ref a0), some (.int a1), some (.ref a2), none]) bf189_0 rfl)
theorem bx190 {w : am_Wd} {a0 : Nat} {a1 : Int32} {a2 : Nat} : am_x 190 [.ref a0, .int a1, .ref a2] w = am_run 190 0 [some (.ref a0), some (.int a1), some (.ref a2), none] [] w :=
  congrArg (fun l => am_run 190 0 l [] w) (bnr (ls := am_xp [.ref a0, .int a1, .ref a2] ++ List.replicate (am_ml 190 - (am_xp [.ref a0, .int a1, .ref a2]).length) none) (ls' := [some (.ref a0), some (.int a1), some (.ref a2), none]) bf190_0 rfl)
theorem bx191 {w : am_Wd} {a0 : Nat} {a1 : Int32} {a2 : Int32} {a3 : Int32} {a4 : Nat} : am_x 191 [.ref a0, .int a1, .int a2, .int a3, .ref a4] w = am_run 191 0 [some (.ref a0), some (.int a1), some (.int a2), some (.int a3), some (.ref a4), none] [] w :=
  congrArg (fun l => am_run 191 0 l [] w) (bnr (ls := am_xp [.ref a0, .int a1, .int a2, .int a3, .ref a4] ++ List.replicate (am_ml 191 - (am_xp [.ref a0, .int a1, .int a2, .int a3, .ref a4]).length) none) (ls' := [some (.ref a0), some (.int a1), some (.int a2), some (.int a3), some (.ref a4), none]) bf191_0 rfl)
theorem bx192 {w : am_Wd} {a0 : Nat} {a1 : Int32} {a2 : Int32} {a3 : Nat} : am_x 192 [.ref a0, .int a1, .int a2, .ref a3] w = am_run 192 0 [some (.ref a0), some (.int a1), some (.int a2), some (.ref a3), none] [] w :=
  congrArg (fun l => am_run 192 0 l [] w) (bnr (ls := am_xp [.ref a0, .int a1, .int a2, .ref a3] ++ List.replicate (am_ml 192 - (am_xp [.ref a0, .int a1, .int a2, .ref a3]).length) none) (ls' := [some (.ref a0), some (.int a1), some (.int a2), some (.ref a3), none]) bf192_0 rfl)
theorem bx193 {w : am_Wd} {a0 : Nat} {a1 : Int32} {a2 : Int32} {a3 : Nat} : am_x 193 [.ref a0, .int a1, .int a2, .ref a3] w = am_run 193 0 [some (.ref a0), some (.int a1), some (.int a2), some (.ref a3), none] [] w :=
  congrArg (fun l => am_run 193 0 l [] w) (bnr (ls := am_xp [.ref a0, .int a1, .int a2, .ref a3] ++ List.replicate (am_ml 193 - (am_xp [.ref a0, .int a1, .int a2, .ref a3]).length) none) (ls' := [some (.ref a0), some (.int a1), some (.int a2), some (.ref a3), none]) bf193_0 rfl)
theorem bx194 {w : am_Wd} {a0 : Nat} {a1 : Int32} {a2 : Int32} {a3 : Int32} {a4 : Nat} : am_x 194 [.ref a0, .int a1, .int a2, .int a3, .ref a4] w = am_run 194 0 [some (.ref a0), some (.int a1), some (.int a2), some (.int a3), some (.ref a4), none] [] w :=
  congrArg (fun l => am_run 194 0 l [] w) (bnr (ls := am_xp [.ref a0, .int a1, .int a2, .int a3, .ref a4] ++ List.replicate (am_ml 194 - (am_xp [.ref a0, .int a1, .int a2, .int a3, .ref a4]).length) none) (ls' := [some (.ref a0), some (.int a1), some (.int a2), some (.int a3), some (.ref a4), none]) bf194_0 rfl)
theorem bx195 {w : am_Wd} {a0 : Nat} {a1 : Nat} : am_x 195 [.ref a0, .ref a1] w = am_run 195 0 [some (.ref a0), some (.ref a1)] [] w :=
  congrArg (fun l => am_run 195 0 l [] w) (bnr (ls := am_xp [.ref a0, .ref a1] ++ List.replicate (am_ml 195 - (am_xp [.ref a0, .ref a1]).length) none) (ls' := [some (.ref a0), some (.ref a1)]) bf195_0 rfl)
theorem bx199 {w : am_Wd} {a0 : Nat} : am_x 199 [.ref a0] w = am_run 199 0 [some (.ref a0), none] [] w :=
  congrArg (fun l => am_run 199 0 l [] w) (bnr (ls := am_xp [.ref a0] ++ List.replicate (am_ml 199 - (am_xp [.ref a0]).length) none) (ls' := [some (.ref a0), none]) bf199_0 rfl)
theorem bx200 {w : am_Wd} {a0 : Nat} {a1 : Int32} : am_x 200 [.ref a0, .int a1] w = am_run 200 0 [some (.ref a0), some (.int a1)] [] w :=
  congrArg (fun l => am_run 200 0 l [] w) (bnr (ls := am_xp [.ref a0, .int a1] ++ List.replicate (am_ml 200 - (am_xp [.ref a0, .int a1]).length) none) (ls' := [some (.ref a0), some (.int a1)]) bf200_0 rfl)
theorem bx201 {w : am_Wd} {a0 : Nat} {a1 : Int32} {a2 : Int32} : am_x 201 [.ref a0, .int a1, .int a2] w = am_run 201 0 [some (.ref a0), some (.int a1), some (.int a2), none] [] w :=
  congrArg (fun l => am_run 201 0 l [] w) (bnr (ls := am_xp [.ref a0, .int a1, .int a2] ++ List.replicate (am_ml 201 - (am_xp [.ref a0, .int a1, .int a2]).length) none) (ls' := [some (.ref a0), some (.int a1), some (.int a2), none]) bf201_0 rfl)
theorem bx202 {w : am_Wd} {a0 : Nat} {a1 : Int32} {a2 : Int32} : am_x 202 [.ref a0, .int a1, .int a2] w = am_run 202 0 [some (.ref a0), some (.int a1), some (.int a2), none] [] w :=
  congrArg (fun l => am_run 202 0 l [] w) (bnr (ls := am_xp [.ref a0, .int a1, .int a2] ++ List.replicate (am_ml 202 - (am_xp [.ref a0, .int a1, .int a2]).length) none) (ls' := [some (.ref a0), some (.int a1), some (.int a2), none]) bf202_0 rfl)
theorem bx203 {w : am_Wd} {a0 : Nat} {a1 : Int32} : am_x 203 [.ref a0, .int a1] w = am_run 203 0 [some (.ref a0), some (.int a1), none, none, none] [] w :=
  congrArg (fun l => am_run 203 0 l [] w) (bnr (ls := am_xp [.ref a0, .int a1] ++ List.replicate (am_ml 203 - (am_xp [.ref a0, .int a1]).length) none) (ls' := [some (.ref a0), some (.int a1), none, none, none]) bf203_0 rfl)
theorem bx204 {w : am_Wd} {a0 : Nat} {a1 : Int32} {a2 : Int32} : am_x 204 [.ref a0, .int a1, .int a2] w = am_run 204 0 [some (.ref a0), some (.int a1), some (.int a2)] [] w :=
  congrArg (fun l => am_run 204 0 l [] w) (bnr (ls := am_xp [.ref a0, .int a1, .int a2] ++ List.replicate (am_ml 204 - (am_xp [.ref a0, .int a1, .int a2]).length) none) (ls' := [some (.ref a0), some (.int a1), some (.int a2)]) bf204_0 rfl)
theorem bx205 {w : am_Wd} {a0 : Nat} {a1 : Nat} : am_x 205 [.ref a0, .ref a1] w = am_run 205 0 [some (.ref a0), some (.ref a1), none, none, none] [] w :=
  congrArg (fun l => am_run 205 0 l [] w) (bnr (ls := am_xp [.ref a0, .ref a1] ++ List.replicate (am_ml 205 - (am_xp [.ref a0, .ref a1]).length) none) (ls' := [some (.ref a0), some (.ref a1), none, none, none]) bf205_0 rfl)
theorem bx206 {w : am_Wd} {a0 : Nat} {a1 : Int32} : am_x 206 [.ref a0, .int a1] w = am_run 206 0 [some (.ref a0), some (.int a1), none, none, none] [] w :=
  congrArg (fun l => am_run 206 0 l [] w) (bnr (ls := am_xp [.ref a0, .int a1] ++ List.replicate (am_ml 206 - (am_xp [.ref a0, .int a1]).length) none) (ls' := [some (.ref a0), some (.int a1), none, none, none]) bf206_0 rfl)
theorem bx207 {w : am_Wd} {a0 : Nat} {a1 : Int32} {a2 : Int32} {a3 : Int32} {a4 : Int32} : am_x 207 [.ref a0, .int a1, .int a2, .int a3, .int a4] w = am_run 207 0 [some (.ref a0), some (.int a1), some (.int a2), some (.int a3), some (.int a4), none] [] w :=
  congrArg (fun l => am_run 207 0 l [] w) (bnr (ls := am_xp [.ref a0, .int a1, .int a2, .int a3, .int a4] ++ List.replicate (am_ml 207 - (am_xp [.ref a0, .int a1, .int a2, .int a3, .int a4]).length) none) (ls' := [some (.ref a0), some (.int a1), some (.int a2), some (.int a3), some (.int a4), none]) bf207_0 rfl)
theorem bx208 {w : am_Wd} {a0 : Nat} {a1 : Nat} {a2 : Int32} : am_x 208 [.ref a0, .ref a1, .int a2] w = am_run 208 0 [none, some (.ref a1), some (.int a2), none, none, none, none] [] w :=
  congrArg (fun l => am_run 208 0 l [] w) (bnr (ls := am_xp [.ref a0, .ref a1, .int a2] ++ List.replicate (am_ml 208 - (am_xp [.ref a0, .ref a1, .int a2]).length) none) (ls' := [none, some (.ref a1), some (.int a2), none, none, none, none]) bf208_0 rfl)
theorem bx209 {w : am_Wd} {a0 : Nat} {a1 : Int32} : am_x 209 [.ref a0, .int a1] w = am_run 209 0 [some (.ref a0), some (.int a1), none, none, none] [] w :=
  congrArg (fun l => am_run 209 0 l [] w) (bnr (ls := am_xp [.ref a0, .int a1] ++ List.replicate (am_ml 209 - (am_xp [.ref a0, .int a1]).length) none) (ls' := [some (.ref a0), some (.int a1), none, none, none]) bf209_0 rfl)
theorem bx210 {w : am_Wd} {a0 : Nat} {a1 : Int32} {a2 : Int32} : am_x 210 [.ref a0, .int a1, .int a2] w = am_run 210 0 [some (.ref a0), some (.int a1), some (.int a2), none, none] [] w :=
  congrArg (fun l => am_run 210 0 l [] w) (bnr (ls := am_xp [.ref a0, .int a1, .int a2] ++ List.replicate (am_ml 210 - (am_xp [.ref a0, .int a1, .int a2]).length) none) (ls' := [some (.ref a0), some (.int a1), some (.int a2), none, none]) bf210_0 rfl)
theorem bx211 {w : am_Wd} {a0 : Nat} {a1 : Int32} : am_x 211 [.ref a0, .int a1] w = am_run 211 0 [some (.ref a0), some (.int a1), none, none, none, none] [] w :=
  congrArg (fun l => am_run 211 0 l [] w) (bnr (ls := am_xp [.ref a0, .int a1] ++ List.replicate (am_ml 211 - (am_xp [.ref a0, .int a1]).length) none) (ls' := [some (.ref a0), some (.int a1), none, none, none, none]) bf211_0 rfl)
theorem bx212 {w : am_Wd} {a0 : Nat} {a1 : Int32} {a2 : Int32} {a3 : Int32} : am_x 212 [.ref a0, .int a1, .int a2, .int a3] w = am_run 212 0 [some (.ref a0), some (.int a1), some (.int a2), some (.int a3)] [] w :=
  congrArg (fun l => am_run 212 0 l [] w) (bnr (ls := am_xp [.ref a0, .int a1, .int a2, .int a3] ++ List.replicate (am_ml 212 - (am_xp [.ref a0, .int a1, .int a2, .int a3]).length) none) (ls' := [some (.ref a0), some (.int a1), some (.int a2), some (.int a3)]) bf212_0 rfl)
theorem bx213 {w : am_Wd} {a0 : Nat} {a1 : Int32} : am_x 213 [.ref a0, .int a1] w = am_run 213 0 [some (.ref a0), some (.int a1), none, none, none] [] w :=
  congrArg (fun l => am_run 213 0 l [] w) (bnr (ls := am_xp [.ref a0, .int a1] ++ List.replicate (am_ml 213 - (am_xp [.ref a0, .int a1]).length) none) (ls' := [some (.ref a0), some (.int a1), none, none, none]) bf213_0 rfl)
theorem bx214 {w : am_Wd} {a0 : Nat} {a1 : Int32} {a2 : Int32} {a3 : Int32} : am_x 214 [.ref a0, .int a1, .int a2, .int a3] w = am_run 214 0 [some (.ref a0), some (.int a1), some (.int a2), some (.int a3)] [] w :=
  congrArg (fun l => am_run 214 0 l [] w) (bnr (ls := am_xp [.ref a0, .int a1, .int a2, .int a3] ++ List.replicate (am_ml 214 - (am_xp [.ref a0, .int a1, .int a2, .int a3]).length) none) (ls' := [some (.ref a0), some (.int a1), some (.int a2), some (.int a3)]) bf214_0 rfl)
theorem bx215 {w : am_Wd} {a0 : Nat} : am_x 215 [.ref a0] w = am_run 215 0 [some (.ref a0)] [] w :=
  congrArg (fun l => am_run 215 0 l [] w) (bnr (ls := am_xp [.ref a0] ++ List.replicate (am_ml 215 - (am_xp [.ref a0]).length) none) (ls' := [some (.ref a0)]) bf215_0 rfl)
theorem bx216 {w : am_Wd} {a0 : Nat} {a1 : Int32} {a2 : Int32} {a3 : Int32} {a4 : Int32} {a5 : Nat} : am_x 216 [.ref a0, .int a1, .int a2, .int a3, .int a4, .ref a5] w = am_run 216 0 [some (.ref a0), some (.int a1), some (.int a2), some (.int a3), some (.int a4), some (.ref a5), none] [] w :=
  congrArg (fun l => am_run 216 0 l [] w) (bnr (ls := am_xp [.ref a0, .int a1, .int a2, .int a3, .int a4, .ref a5] ++ List.replicate (am_ml 216 - (am_xp [.ref a0, .int a1, .int a2, .int a3, .int a4, .ref a5]).length) none) (ls' := [some (.ref a0), some (.int a1), some (.int a2), some (.int a3), some (.int a4), some (.ref a5), none]) bf216_0 rfl)
theorem bx217 {w : am_Wd} {a0 : Nat} {a1 : Int32} {a2 : Int32} {a3 : Int32} {a4 : Int32} {a5 : Nat} : am_x 217 [.ref a0, .int a1, .int a2, .int a3, .int a4, .ref a5] w = am_run 217 0 [some (.ref a0), some (.int a1), some (.int a2), some (.int a3), some (.int a4), some (.ref a5), none] [] w :=
  congrArg (fun l => am_run 217 0 l [] w) (bnr (ls := am_xp [.ref a0, .int a1, .int a2, .int a3, .int a4, .ref a5] ++ List.replicate (am_ml 217 - (am_xp [.ref a0, .int a1, .int a2, .int a3, .int a4, .ref a5]).length) none) (ls' := [some (.ref a0), some (.int a1), some (.int a2), some (.int a3), some (.int a4), some (.ref a5), none]) bf217_0 rfl)
theorem bx218 {w : am_Wd} {a0 : Nat} {a1 : Int32} {a2 : Int32} {a3 : Nat} : am_x 218 [.ref a0, .int a1, .int a2, .ref a3] w = am_run 218 0 [some (.ref a0), some (.int a1), some (.int a2), some (.ref a3), none] [] w :=
  congrArg (fun l => am_run 218 0 l [] w) (bnr (ls := am_xp [.ref a0, .int a1, .int a2, .ref a3] ++ List.replicate (am_ml 218 - (am_xp [.ref a0, .int a1, .int a2, .ref a3]).length) none) (ls' := [some (.ref a0), some (.int a1), some (.int a2), some (.ref a3), none]) bf218_0 rfl)
theorem bx219 {w : am_Wd} {a0 : Nat} {a1 : Int32} {a2 : Int32} {a3 : Int32} {a4 : Nat} : am_x 219 [.ref a0, .int a1, .int a2, .int a3, .ref a4] w = am_run 219 0 [some (.ref a0), some (.int a1), some (.int a2), some (.int a3), some (.ref a4), none] [] w :=
  congrArg (fun l => am_run 219 0 l [] w) (bnr (ls := am_xp [.ref a0, .int a1, .int a2, .int a3, .ref a4] ++ List.replicate (am_ml 219 - (am_xp [.ref a0, .int a1, .int a2, .int a3, .ref a4]).length) none) (ls' := [some (.ref a0), some (.int a1), some (.int a2), some (.int a3), some (.ref a4), none]) bf219_0 rfl)
theorem bx220 {w : am_Wd} {a0 : Nat} {a1 : Int32} {a2 : Int32} {a3 : Nat} : am_x 220 [.ref a0, .int a1, .int a2, .ref a3] w = am_run 220 0 [some (.ref a0), some (.int a1), some (.int a2), some (.ref a3), none] [] w :=
  congrArg (fun l => am_run 220 0 l [] w) (bnr (ls := am_xp [.ref a0, .int a1, .int a2, .ref a3] ++ List.replicate (am_ml 220 - (am_xp [.ref a0, .int a1, .int a2, .ref a3]).length) none) (ls' := [some (.ref a0), some (.int a1), some (.int a2), some (.ref a3), none]) bf220_0 rfl)
theorem bx223 {w : am_Wd} {a0 : Nat} {a1 : Int32} {a2 : Int32} : am_x 223 [.ref a0, .int a1, .int a2] w = am_run 223 0 [some (.ref a0), some (.int a1), some (.int a2), none] [] w :=
  congrArg (fun l => am_run 223 0 l [] w) (bnr (ls := am_xp [.ref a0, .int a1, .int a2] ++ List.replicate (am_ml 223 - (am_xp [.ref a0, .int a1, .int a2]).length) none) (ls' := [some (.ref a0), some (.int a1), some (.int a2), none]) bf223_0 rfl)
theorem bx224 {w : am_Wd} {a0 : Nat} : am_x 224 [.ref a0] w = am_run 224 0 [some (.ref a0), none, none] [] w :=
  congrArg (fun l => am_run 224 0 l [] w) (bnr (ls := am_xp [.ref a0] ++ List.replicate (am_ml 224 - (am_xp [.ref a0]).length) none) (ls' := [some (.ref a0), none, none]) bf224_0 rfl)
theorem bx225 {w : am_Wd} {a0 : Nat} {a1 : Nat} {a2 : Int32} : am_x 225 [.ref a0, .ref a1, .int a2] w = am_run 225 0 [some (.ref a0), some (.ref a1), some (.int a2)] [] w :=
  congrArg (fun l => am_run 225 0 l [] w) (bnr (ls := am_xp [.ref a0, .ref a1, .int a2] ++ List.replicate (am_ml 225 - (am_xp [.ref a0, .ref a1, .int a2]).length) none) (ls' := [some (.ref a0), some (.ref a1), some (.int a2)]) bf225_0 rfl)
theorem bx226 {w : am_Wd} {a0 : Nat} {a1 : Nat} : am_x 226 [.ref a0, .ref a1] w = am_run 226 0 [some (.ref a0), some (.ref a1)] [] w :=
  congrArg (fun l => am_run 226 0 l [] w) (bnr (ls := am_xp [.ref a0, .ref a1] ++ List.replicate (am_ml 226 - (am_xp [.ref a0, .ref a1]).length) none) (ls' := [some (.ref a0), some (.ref a1)]) bf226_0 rfl)
theorem bx227 {w : am_Wd} {a0 : Nat} {a1 : Int32} : am_x 227 [.ref a0, .int a1] w = am_run 227 0 [some (.ref a0), some (.int a1)] [] w :=
  congrArg (fun l => am_run 227 0 l [] w) (bnr (ls := am_xp [.ref a0, .int a1] ++ List.replicate (am_ml 227 - (am_xp [.ref a0, .int a1]).length) none) (ls' := [some (.ref a0), some (.int a1)]) bf227_0 rfl)
theorem bx228 {w : am_Wd} {a0 : Nat} {a1 : Int32} {a2 : Int32} {a3 : Int32} : am_x 228 [.ref a0, .int a1, .int a2, .int a3] w = am_run 228 0 [some (.ref a0), some (.int a1), some (.int a2), some (.int a3)] [] w :=
  congrArg (fun l => am_run 228 0 l [] w) (bnr (ls := am_xp [.ref a0, .int a1, .int a2, .int a3] ++ List.replicate (am_ml 228 - (am_xp [.ref a0, .int a1, .int a2, .int a3]).length) none) (ls' := [some (.ref a0), some (.int a1), some (.int a2), some (.int a3)]) bf228_0 rfl)
theorem bx229 {w : am_Wd} {a0 : Nat} {a1 : Nat} : am_x 229 [.ref a0, .ref a1] w = am_run 229 0 [some (.ref a0), some (.ref a1), none, none, none, none, none] [] w :=
  congrArg (fun l => am_run 229 0 l [] w) (bnr (ls := am_xp [.ref a0, .ref a1] ++ List.replicate (am_ml 229 - (am_xp [.ref a0, .ref a1]).length) none) (ls' := [some (.ref a0), some (.ref a1), none, none, none, none, none]) bf229_0 rfl)
theorem bx230 {w : am_Wd} {a0 : Nat} {a1 : Nat} {a2 : Int32} : am_x 230 [.ref a0, .ref a1, .int a2] w = am_run 230 0 [none, some (.ref a1), some (.int a2), none, none] [] w :=
  congrArg (fun l => am_run 230 0 l [] w) (bnr (ls := am_xp [.ref a0, .ref a1, .int a2] ++ List.replicate (am_ml 230 - (am_xp [.ref a0, .ref a1, .int a2]).length) none) (ls' := [none, some (.ref a1), some (.int a2), none, none]) bf230_0 rfl)
theorem bx231 {w : am_Wd} {a0 : Nat} {a1 : Int32} {a2 : Int32} : am_x 231 [.ref a0, .int a1, .int a2] w = am_run 231 0 [some (.ref a0), some (.int a1), some (.int a2)] [] w :=
  congrArg (fun l => am_run 231 0 l [] w) (bnr (ls := am_xp [.ref a0, .int a1, .int a2] ++ List.replicate (am_ml 231 - (am_xp [.ref a0, .int a1, .int a2]).length) none) (ls' := [some (.ref a0), some (.int a1), some (.int a2)]) bf231_0 rfl)
theorem bx232 {w : am_Wd} {a0 : Nat} {a1 : Int32} {a2 : Int32} : am_x 232 [.ref a0, .int a1, .int a2] w = am_run 232 0 [some (.ref a0), some (.int a1), some (.int a2)] [] w :=
  congrArg (fun l => am_run 232 0 l [] w) (bnr (ls := am_xp [.ref a0, .int a1, .int a2] ++ List.replicate (am_ml 232 - (am_xp [.ref a0, .int a1, .int a2]).length) none) (ls' := [some (.ref a0), some (.int a1), some (.int a2)]) bf232_0 rfl)
theorem bx233 {w : am_Wd} {a0 : Nat} {a1 : Int32} {a2 : Nat} : am_x 233 [.ref a0, .int a1, .ref a2] w = am_run 233 0 [some (.ref a0), some (.int a1), some (.ref a2), none] [] w :=
  congrArg (fun l => am_run 233 0 l [] w) (bnr (ls := am_xp [.ref a0, .int a1, .ref a2] ++ List.replicate (am_ml 233 - (am_xp [.ref a0, .int a1, .ref a2]).length) none) (ls' := [some (.ref a0), some (.int a1), some (.ref a2), none]) bf233_0 rfl)
theorem bx234 {w : am_Wd} {a0 : Nat} {a1 : Int32} {a2 : Int32} {a3 : Nat} : am_x 234 [.ref a0, .int a1, .int a2, .ref a3] w = am_run 234 0 [some (.ref a0), some (.int a1), some (.int a2), some (.ref a3), none] [] w :=
  congrArg (fun l => am_run 234 0 l [] w) (bnr (ls := am_xp [.ref a0, .int a1, .int a2, .ref a3] ++ List.replicate (am_ml 234 - (am_xp [.ref a0, .int a1, .int a2, .ref a3]).length) none) (ls' := [some (.ref a0), some (.int a1), some (.int a2), some (.ref a3), none]) bf234_0 rfl)
theorem bx235 {w : am_Wd} {a0 : Nat} {a1 : Int32} {a2 : Int32} {a3 : Nat} : am_x 235 [.ref a0, .int a1, .int a2, .ref a3] w = am_run 235 0 [some (.ref a0), some (.int a1), some (.int a2), some (.ref a3), none] [] w :=
  congrArg (fun l => am_run 235 0 l [] w) (bnr (ls := am_xp [.ref a0, .int a1, .int a2, .ref a3] ++ List.replicate (am_ml 235 - (am_xp [.ref a0, .int a1, .int a2, .ref a3]).length) none) (ls' := [some (.ref a0), some (.int a1), some (.int a2), some (.ref a3), none]) bf235_0 rfl)
theorem bx236 {w : am_Wd} {a0 : Nat} {a1 : Int32} {a2 : Nat} : am_x 236 [.ref a0, .int a1, .ref a2] w = am_run 236 0 [some (.ref a0), some (.int a1), some (.ref a2), none] [] w :=
  congrArg (fun l => am_run 236 0 l [] w) (bnr (ls := am_xp [.ref a0, .int a1, .ref a2] ++ List.replicate (am_ml 236 - (am_xp [.ref a0, .int a1, .ref a2]).length) none) (ls' := [some (.ref a0), some (.int a1), some (.ref a2), none]) bf236_0 rfl)
theorem bx237 {w : am_Wd} {a0 : Nat} {a1 : Int32} {a2 : Int32} {a3 : Nat} : am_x 237 [.ref a0, .int a1, .int a2, .ref a3] w = am_run 237 0 [some (.ref a0), some (.int a1), some (.int a2), some (.ref a3), none] [] w :=
  congrArg (fun l => am_run 237 0 l [] w) (bnr (ls := am_xp [.ref a0, .int a1, .int a2, .ref a3] ++ List.replicate (am_ml 237 - (am_xp [.ref a0, .int a1, .int a2, .ref a3]).length) none) (ls' := [some (.ref a0), some (.int a1), some (.int a2), some (.ref a3), none]) bf237_0 rfl)
theorem bx239 {w : am_Wd} {a0 : Nat} {a1 : Int32} {a2 : Int32} : am_x 239 [.ref a0, .int a1, .int a2] w = am_run 239 0 [some (.ref a0), some (.int a1), some (.int a2), none, none] [] w :=
  congrArg (fun l => am_run 239 0 l [] w) (bnr (ls := am_xp [.ref a0, .int a1, .int a2] ++ List.replicate (am_ml 239 - (am_xp [.ref a0, .int a1, .int a2]).length) none) (ls' := [some (.ref a0), some (.int a1), some (.int a2), none, none]) bf239_0 rfl)
theorem bx240 {w : am_Wd} {a0 : Nat} {a1 : Int32} {a2 : Int32} {a3 : Int32} : am_x 240 [.ref a0, .int a1, .int a2, .int a3] w = am_run 240 0 [some (.ref a0), some (.int a1), some (.int a2), some (.int a3), none] [] w :=
  congrArg (fun l => am_run 240 0 l [] w) (bnr (ls := am_xp [.ref a0, .int a1, .int a2, .int a3] ++ List.replicate (am_ml 240 - (am_xp [.ref a0, .int a1, .int a2, .int a3]).length) none) (ls' := [some (.ref a0), some (.int a1), some (.int a2), some (.int a3), none]) bf240_0 rfl)
theorem bx241 {w : am_Wd} {a0 : Nat} {a1 : Int32} {a2 : Int32} : am_x 241 [.ref a0, .int a1, .int a2] w = am_run 241 0 [some (.ref a0), some (.int a1), some (.int a2), none, none] [] w :=
  congrArg (fun l => am_run 241 0 l [] w) (bnr (ls := am_xp [.ref a0, .int a1, .int a2] ++ List.replicate (am_ml 241 - (am_xp [.ref a0, .int a1, .int a2]).length) none) (ls' := [some (.ref a0), some (.int a1), some (.int a2), none, none]) bf241_0 rfl)
theorem bx242 {w : am_Wd} {a0 : Nat} {a1 : Int32} {a2 : Int32} : am_x 242 [.ref a0, .int a1, .int a2] w = am_run 242 0 [some (.ref a0), some (.int a1), some (.int a2), none, none, none, none] [] w :=
  congrArg (fun l => am_run 242 0 l [] w) (bnr (ls := am_xp [.ref a0, .int a1, .int a2] ++ List.replicate (am_ml 242 - (am_xp [.ref a0, .int a1, .int a2]).length) none) (ls' := [some (.ref a0), some (.int a1), some (.int a2), none, none, none, none]) bf242_0 rfl)
theorem bx243 {w : am_Wd} {a0 : Nat} {a1 : Int32} : am_x 243 [.ref a0, .int a1] w = am_run 243 0 [some (.ref a0), some (.int a1), none, none, none] [] w :=
  congrArg (fun l => am_run 243 0 l [] w) (bnr (ls := am_xp [.ref a0, .int a1] ++ List.replicate (am_ml 243 - (am_xp [.ref a0, .int a1]).length) none) (ls' := [some (.ref a0), some (.int a1), none, none, none]) bf243_0 rfl)
theorem bx244 {w : am_Wd} {a0 : Nat} {a1 : Int64} {a2 : Int32} : am_x 244 [.ref a0, .long a1, .int a2] w = am_run 244 0 [some (.ref a0), some (.long a1), none, some (.int a2), none, none, none] [] w :=
  congrArg (fun l => am_run 244 0 l [] w) (bnr (ls := am_xp [.ref a0, .long a1, .int a2] ++ List.replicate (am_ml 244 - (am_xp [.ref a0, .long a1, .int a2]).length) none) (ls' := [some (.ref a0), some (.long a1), none, some (.int a2), none, none, none]) bf244_0 rfl)
theorem bx245 {w : am_Wd} {a0 : Nat} {a1 : Nat} : am_x 245 [.ref a0, .ref a1] w = am_run 245 0 [some (.ref a0), some (.ref a1)] [] w :=
  congrArg (fun l => am_run 245 0 l [] w) (bnr (ls := am_xp [.ref a0, .ref a1] ++ List.replicate (am_ml 245 - (am_xp [.ref a0, .ref a1]).length) none) (ls' := [some (.ref a0), some (.ref a1)]) bf245_0 rfl)
theorem bx246 {w : am_Wd} {a0 : Nat} {a1 : Int32} : am_x 246 [.ref a0, .int a1] w = am_run 246 0 [some (.ref a0), some (.int a1), none, none, none, none] [] w :=
  congrArg (fun l => am_run 246 0 l [] w) (bnr (ls := am_xp [.ref a0, .int a1] ++ List.replicate (am_ml 246 - (am_xp [.ref a0, .int a1]).length) none) (ls' := [some (.ref a0), some (.int a1), none, none, none, none]) bf246_0 rfl)
theorem bx247 {w : am_Wd} {a0 : Nat} {a1 : Int32} {a2 : Int32} : am_x 247 [.ref a0, .int a1, .int a2] w = am_run 247 0 [some (.ref a0), some (.int a1), some (.int a2)] [] w :=
  congrArg (fun l => am_run 247 0 l [] w) (bnr (ls := am_xp [.ref a0, .int a1, .int a2] ++ List.replicate (am_ml 247 - (am_xp [.ref a0, .int a1, .int a2]).length) none) (ls' := [some (.ref a0), some (.int a1), some (.int a2)]) bf247_0 rfl)
theorem bx248 {w : am_Wd} {a0 : Nat} {a1 : Nat} : am_x 248 [.ref a0, .ref a1] w = am_run 248 0 [some (.ref a0), some (.ref a1), none, none] [] w :=
  congrArg (fun l => am_run 248 0 l [] w) (bnr (ls := am_xp [.ref a0, .ref a1] ++ List.replicate (am_ml 248 - (am_xp [.ref a0, .ref a1]).length) none) (ls' := [some (.ref a0), some (.ref a1), none, none]) bf248_0 rfl)
theorem bx249 {w : am_Wd} {a0 : Nat} {a1 : Int32} {a2 : Int32} {a3 : Nat} : am_x 249 [.ref a0, .int a1, .int a2, .ref a3] w = am_run 249 0 [some (.ref a0), some (.int a1), some (.int a2), some (.ref a3), none] [] w :=
  congrArg (fun l => am_run 249 0 l [] w) (bnr (ls := am_xp [.ref a0, .int a1, .int a2, .ref a3] ++ List.replicate (am_ml 249 - (am_xp [.ref a0, .int a1, .int a2, .ref a3]).length) none) (ls' := [some (.ref a0), some (.int a1), some (.int a2), some (.ref a3), none]) bf249_0 rfl)
theorem bx250 {w : am_Wd} {a0 : Nat} : am_x 250 [.ref a0] w = am_run 250 0 [some (.ref a0), none, none, none, none] [] w :=
  congrArg (fun l => am_run 250 0 l [] w) (bnr (ls := am_xp [.ref a0] ++ List.replicate (am_ml 250 - (am_xp [.ref a0]).length) none) (ls' := [some (.ref a0), none, none, none, none]) bf250_0 rfl)
theorem bx251 {w : am_Wd} {a0 : Nat} {a1 : Nat} : am_x 251 [.ref a0, .ref a1] w = am_run 251 0 [some (.ref a0), some (.ref a1)] [] w :=
  congrArg (fun l => am_run 251 0 l [] w) (bnr (ls := am_xp [.ref a0, .ref a1] ++ List.replicate (am_ml 251 - (am_xp [.ref a0, .ref a1]).length) none) (ls' := [some (.ref a0), some (.ref a1)]) bf251_0 rfl)
theorem bx252 {w : am_Wd} {a0 : Nat} {a1 : Int32} : am_x 252 [.ref a0, .int a1] w = am_run 252 0 [some (.ref a0), some (.int a1)] [] w :=
  congrArg (fun l => am_run 252 0 l [] w) (bnr (ls := am_xp [.ref a0, .int a1] ++ List.replicate (am_ml 252 - (am_xp [.ref a0, .int a1]).length) none) (ls' := [some (.ref a0), some (.int a1)]) bf252_0 rfl)
theorem bx253 {w : am_Wd} {a0 : Nat} {a1 : Int32} {a2 : Int32} {a3 : Nat} : am_x 253 [.ref a0, .int a1, .int a2, .ref a3] w = am_run 253 0 [some (.ref a0), some (.int a1), some (.int a2), some (.ref a3), none] [] w :=
  congrArg (fun l => am_run 253 0 l [] w) (bnr (ls := am_xp [.ref a0, .int a1, .int a2, .ref a3] ++ List.replicate (am_ml 253 - (am_xp [.ref a0, .int a1, .int a2, .ref a3]).length) none) (ls' := [some (.ref a0), some (.int a1), some (.int a2), some (.ref a3), none]) bf253_0 rfl)
theorem bx254 {w : am_Wd} {a0 : Nat} {a1 : Int32} {a2 : Int32} {a3 : Int32} {a4 : Nat} : am_x 254 [.ref a0, .int a1, .int a2, .int a3, .ref a4] w = am_run 254 0 [some (.ref a0), some (.int a1), some (.int a2), some (.int a3), some (.ref a4), none] [] w :=
  congrArg (fun l => am_run 254 0 l [] w) (bnr (ls := am_xp [.ref a0, .int a1, .int a2, .int a3, .ref a4] ++ List.replicate (am_ml 254 - (am_xp [.ref a0, .int a1, .int a2, .int a3, .ref a4]).length) none) (ls' := [some (.ref a0), some (.int a1), some (.int a2), some (.int a3), some (.ref a4), none]) bf254_0 rfl)
theorem bx255 {w : am_Wd} {a0 : Nat} {a1 : Int32} {a2 : Int32} {a3 : Nat} : am_x 255 [.ref a0, .int a1, .int a2, .ref a3] w = am_run 255 0 [some (.ref a0), some (.int a1), some (.int a2), some (.ref a3), none] [] w :=
  congrArg (fun l => am_run 255 0 l [] w) (bnr (ls := am_xp [.ref a0, .int a1, .int a2, .ref a3] ++ List.replicate (am_ml 255 - (am_xp [.ref a0, .int a1, .int a2, .ref a3]).length) none) (ls' := [some (.ref a0), some (.int a1), some (.int a2), some (.ref a3), none]) bf255_0 rfl)
theorem bx256 {w : am_Wd} {a0 : Nat} {a1 : Int32} {a2 : Int32} {a3 : Nat} : am_x 256 [.ref a0, .int a1, .int a2, .ref a3] w = am_run 256 0 [some (.ref a0), some (.int a1), some (.int a2), some (.ref a3), none] [] w :=
  congrArg (fun l => am_run 256 0 l [] w) (bnr (ls := am_xp [.ref a0, .int a1, .int a2, .ref a3] ++ List.replicate (am_ml 256 - (am_xp [.ref a0, .int a1, .int a2, .ref a3]).length) none) (ls' := [some (.ref a0), some (.int a1), some (.int a2), some (.ref a3), none]) bf256_0 rfl)
theorem bx257 {w : am_Wd} {a0 : Nat} {a1 : Int32} {a2 : Nat} : am_x 257 [.ref a0, .int a1, .ref a2] w = am_run 257 0 [some (.ref a0), some (.int a1), some (.ref a2), none] [] w :=
  congrArg (fun l => am_run 257 0 l [] w) (bnr (ls := am_xp [.ref a0, .int a1, .ref a2] ++ List.replicate (am_ml 257 - (am_xp [.ref a0, .int a1, .ref a2]).length) none) (ls' := [some (.ref a0), some (.int a1), some (.ref a2), none]) bf257_0 rfl)
theorem bx258 {w : am_Wd} {a0 : Nat} {a1 : Nat} {a2 : Int32} : am_x 258 [.ref a0, .ref a1, .int a2] w = am_run 258 0 [some (.ref a0), some (.ref a1), some (.int a2)] [] w :=
  congrArg (fun l => am_run 258 0 l [] w) (bnr (ls := am_xp [.ref a0, .ref a1, .int a2] ++ List.replicate (am_ml 258 - (am_xp [.ref a0, .ref a1, .int a2]).length) none) (ls' := [some (.ref a0), some (.ref a1), some (.int a2)]) bf258_0 rfl)
theorem bx259 {w : am_Wd} {a0 : Nat} {a1 : Nat} {a2 : Int32} : am_x 259 [.ref a0, .ref a1, .int a2] w = am_run 259 0 [some (.ref a0), some (.ref a1), some (.int a2)] [] w :=
  congrArg (fun l => am_run 259 0 l [] w) (bnr (ls := am_xp [.ref a0, .ref a1, .int a2] ++ List.replicate (am_ml 259 - (am_xp [.ref a0, .ref a1, .int a2]).length) none) (ls' := [some (.ref a0), some (.ref a1), some (.int a2)]) bf259_0 rfl)
theorem bx260 {w : am_Wd} {a0 : Nat} {a1 : Int32} {a2 : Int32} : am_x 260 [.ref a0, .int a1, .int a2] w = am_run 260 0 [some (.ref a0), some (.int a1), some (.int a2), none, none, none, none, none, none, none] [] w :=
  congrArg (fun l => am_run 260 0 l [] w) (bnr (ls := am_xp [.ref a0, .int a1, .int a2] ++ List.replicate (am_ml 260 - (am_xp [.ref a0, .int a1, .int a2]).length) none) (ls' := [some (.ref a0), some (.int a1), some (.int a2), none, none, none, none, none, none, none]) bf260_0 rfl)
theorem bx261 {w : am_Wd} {a0 : Nat} {a1 : Int32} {a2 : Int32} {a3 : Int32} : am_x 261 [.ref a0, .int a1, .int a2, .int a3] w = am_run 261 0 [some (.ref a0), some (.int a1), some (.int a2), some (.int a3), none, none, none, none] [] w :=
  congrArg (fun l => am_run 261 0 l [] w) (bnr (ls := am_xp [.ref a0, .int a1, .int a2, .int a3] ++ List.replicate (am_ml 261 - (am_xp [.ref a0, .int a1, .int a2, .int a3]).length) none) (ls' := [some (.ref a0), some (.int a1), some (.int a2), some (.int a3), none, none, none, none]) bf261_0 rfl)
theorem bx262 {w : am_Wd} {a0 : Nat} {a1 : Int32} {a2 : Int32} : am_x 262 [.ref a0, .int a1, .int a2] w = am_run 262 0 [some (.ref a0), some (.int a1), some (.int a2), none, none, none, none] [] w :=
  congrArg (fun l => am_run 262 0 l [] w) (bnr (ls := am_xp [.ref a0, .int a1, .int a2] ++ List.replicate (am_ml 262 - (am_xp [.ref a0, .int a1, .int a2]).length) none) (ls' := [some (.ref a0), some (.int a1), some (.int a2), none, none, none, none]) bf262_0 rfl)
theorem bx263 {w : am_Wd} {a0 : Nat} {a1 : Int32} {a2 : Int32} : am_x 263 [.ref a0, .int a1, .int a2] w = am_run 263 0 [some (.ref a0), some (.int a1), some (.int a2), none, none, none, none] [] w :=
  congrArg (fun l => am_run 263 0 l [] w) (bnr (ls := am_xp [.ref a0, .int a1, .int a2] ++ List.replicate (am_ml 263 - (am_xp [.ref a0, .int a1, .int a2]).length) none) (ls' := [some (.ref a0), some (.int a1), some (.int a2), none, none, none, none]) bf263_0 rfl)
theorem bx264 {w : am_Wd} {a0 : Nat} {a1 : Int32} {a2 : Int32} : am_x 264 [.ref a0, .int a1, .int a2] w = am_run 264 0 [some (.ref a0), some (.int a1), some (.int a2)] [] w :=
  congrArg (fun l => am_run 264 0 l [] w) (bnr (ls := am_xp [.ref a0, .int a1, .int a2] ++ List.replicate (am_ml 264 - (am_xp [.ref a0, .int a1, .int a2]).length) none) (ls' := [some (.ref a0), some (.int a1), some (.int a2)]) bf264_0 rfl)
theorem bx265 {w : am_Wd} {a0 : Nat} : am_x 265 [.ref a0] w = am_run 265 0 [some (.ref a0), none, none, none, none, none, none] [] w :=
  congrArg (fun l => am_run 265 0 l [] w) (bnr (ls := am_xp [.ref a0] ++ List.replicate (am_ml 265 - (am_xp [.ref a0]).length) none) (ls' := [some (.ref a0), none, none, none, none, none, none]) bf265_0 rfl)
theorem bx266 {w : am_Wd} {a0 : Nat} : am_x 266 [.ref a0] w = am_run 266 0 [some (.ref a0), none, none, none, none, none, none, none] [] w :=
  congrArg (fun l => am_run 266 0 l [] w) (bnr (ls := am_xp [.ref a0] ++ List.replicate (am_ml 266 - (am_xp [.ref a0]).length) none) (ls' := [some (.ref a0), none, none, none, none, none, none, none]) bf266_0 rfl)
theorem bx58n {w : am_Wd} {a0 : Int32} {a1 : Int32} : am_x 58 [.int a0, .int a1, .null] w = am_run 58 0 [some (.int a0), some (.int a1), some (.null)] [] w :=
  congrArg (fun l => am_run 58 0 l [] w) (bnr (ls := am_xp [.int a0, .int a1, .null] ++ List.replicate (am_ml 58 - (am_xp [.int a0, .int a1, .null]).length) none) (ls' := [some (.int a0), some (.int a1), some (.null)]) bf58_0 rfl)
