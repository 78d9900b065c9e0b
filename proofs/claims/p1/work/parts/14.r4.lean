/-! RULES, on. Mine. -/
theorem bk265_260 {w : am_Wd} {l0 : Nat} {l3 : Nat} {l4 : Nat} {s0 : Int32} {s1 : Int64} : am_run 265 260 [some (.ref l0), none, none, some (.ref l3), some (.ref l4), none, none] [.int s0, .long s1] w = (am_kf w l0 11).bind fun _ => (am_x 49 [.ref l0, .ref l4] w).bind fun r => bct r fun v w' => am_run 265 277 [some (.ref l0), none, none, some (.ref l3), some (.ref l4), none, none] (v.toList ++ [.double (4634204016564240384 : UInt64), .long ((s1 + (Int32.toInt64 s0)) * (lN 31))]) w' := by
  refine (bu (ls'' := [some (.ref l0), none, none, some (.ref l3), some (.ref l4), none, none]) (st' := [.long (Int32.toInt64 s0), .long s1]) bf265_260 bf265_261 rfl rfl).trans ?_
  refine (bu (ls'' := [some (.ref l0), none, none, some (.ref l3), some (.ref l4), none, none]) (st' := [.long (s1 + (Int32.toInt64 s0))]) bf265_261 bf265_262 rfl rfl).trans ?_
  refine (bu (ls'' := [some (.ref l0), some (.long (s1 + (Int32.toInt64 s0))), none, some (.ref l3), some (.ref l4), none, none]) (st' := []) bf265_262 bf265_263 rfl rfl).trans ?_
  refine (bu (ls'' := [some (.ref l0), none, none, some (.ref l3), some (.ref l4), none, none]) (st' := [.long (s1 + (Int32.toInt64 s0))]) bf265_263 bf265_264 rfl rfl).trans ?_
  refine (bu (ls'' := [some (.ref l0), none, none, some (.ref l3), some (.ref l4), none, none]) (st' := [.long (lN 31), .long (s1 + (Int32.toInt64 s0))]) bf265_264 bf265_267 rfl rfl).trans ?_
  refine (bu (ls'' := [some (.ref l0), none, none, some (.ref l3), some (.ref l4), none, none]) (st' := [.long ((s1 + (Int32.toInt64 s0)) * (lN 31))]) bf265_267 bf265_268 rfl rfl).trans ?_
  refine (bu (ls'' := [some (.ref l0), none, none, some (.ref l3), some (.ref l4), none, none]) (st' := [.double (4634204016564240384 : UInt64), .long ((s1 + (Int32.toInt64 s0)) * (lN 31))]) bf265_268 bf265_271 rfl rfl).trans ?_
  refine (bu (ls'' := [some (.ref l0), none, none, some (.ref l3), some (.ref l4), none, none]) (st' := [.ref l0, .double (4634204016564240384 : UInt64), .long ((s1 + (Int32.toInt64 s0)) * (lN 31))]) bf265_271 bf265_272 rfl rfl).trans ?_
  refine (bu (ls'' := [some (.ref l0), none, none, some (.ref l3), some (.ref l4), none, none]) (st' := [.ref l4, .ref l0, .double (4634204016564240384 : UInt64), .long ((s1 + (Int32.toInt64 s0)) * (lN 31))]) bf265_272 bf265_274 rfl rfl).trans ?_
  exact bkV bf265_274 bf265_277 rfl (by decide +kernel) (Nat.le_of_ble_eq_true rfl) rfl (bhd rfl)
theorem bk265_240 {w : am_Wd} {l0 : Nat} {l3 : Nat} {l4 : Nat} {l5 : Int32} {s0 : Int32} {s1 : Int64} : am_run 265 240 [some (.ref l0), none, none, some (.ref l3), some (.ref l4), some (.int l5), none] [.int s0, .long s1] w = am_run 265 221 [some (.ref l0), some (.long (s1 + (Int32.toInt64 s0))), none, some (.ref l3), some (.ref l4), some (.int (l5 + (nI 1))), none] [] w := by
  refine (bu (ls'' := [some (.ref l0), none, none, some (.ref l3), some (.ref l4), some (.int l5), none]) (st' := [.long (Int32.toInt64 s0), .long s1]) bf265_240 bf265_241 rfl rfl).trans ?_
  refine (bu (ls'' := [some (.ref l0), none, none, some (.ref l3), some (.ref l4), some (.int l5), none]) (st' := [.long (s1 + (Int32.toInt64 s0))]) bf265_241 bf265_242 rfl rfl).trans ?_
  refine (bu (ls'' := [some (.ref l0), some (.long (s1 + (Int32.toInt64 s0))), none, some (.ref l3), some (.ref l4), some (.int l5), none]) (st' := []) bf265_242 bf265_243 rfl rfl).trans ?_
  refine (bu (ls'' := [some (.ref l0), some (.long (s1 + (Int32.toInt64 s0))), none, some (.ref l3), some (.ref l4), some (.int (l5 + (nI 1))), none]) (st' := []) bf265_243 bf265_246 rfl rfl).trans ?_
  refine (bu (ls'' := [some (.ref l0), some (.long (s1 + (Int32.toInt64 s0))), none, some (.ref l3), some (.ref l4), some (.int (l5 + (nI 1))), none]) (st' := []) bf265_246 bf265_221 rfl rfl).trans ?_
  rfl
theorem bk265_277 {w : am_Wd} {l0 : Nat} {l3 : Nat} {l4 : Nat} {s0 : UInt64} {s1 : UInt64} {s2 : Int64} (hn : (FP.dmul s1 s0) &&& 0x7fffffffffffffff ≤ 0x7ff0000000000000) : am_run 265 277 [some (.ref l0), none, none, some (.ref l3), some (.ref l4), none, none] [.double s0, .double s1, .long s2] w = am_run 265 278 [some (.ref l0), none, none, some (.ref l3), some (.ref l4), none, none] [.double (FP.dmul s1 s0), .long s2] w := by
  exact bdd (h := inferInstance) bf265_277 bf265_278 (fun h => by unfold am_stp; exact if_pos h) rfl hn
theorem bk265_278 {w : am_Wd} {l0 : Nat} {l3 : Nat} {l4 : Nat} {s0 : UInt64} {s1 : Int64} : am_run 265 278 [some (.ref l0), none, none, some (.ref l3), some (.ref l4), none, none] [.double s0, .long s1] w = am_run 265 284 [some (.ref l0), some (.long (s1 + (FP.d2l s0))), none, some (.ref l3), some (.ref l4), some (.int (nI 0)), none] [] w := by
  refine (bu (ls'' := [some (.ref l0), none, none, some (.ref l3), some (.ref l4), none, none]) (st' := [.long (FP.d2l s0), .long s1]) bf265_278 bf265_279 rfl rfl).trans ?_
  refine (bu (ls'' := [some (.ref l0), none, none, some (.ref l3), some (.ref l4), none, none]) (st' := [.long (s1 + (FP.d2l s0))]) bf265_279 bf265_280 rfl rfl).trans ?_
  refine (bu (ls'' := [some (.ref l0), some (.long (s1 + (FP.d2l s0))), none, some (.ref l3), some (.ref l4), none, none]) (st' := []) bf265_280 bf265_281 rfl rfl).trans ?_
  refine (bu (ls'' := [some (.ref l0), some (.long (s1 + (FP.d2l s0))), none, some (.ref l3), some (.ref l4), none, none]) (st' := [.int (nI 0)]) bf265_281 bf265_282 rfl rfl).trans ?_
  refine (bu (ls'' := [some (.ref l0), some (.long (s1 + (FP.d2l s0))), none, some (.ref l3), some (.ref l4), some (.int (nI 0)), none]) (st' := []) bf265_282 bf265_284 rfl rfl).trans ?_
  rfl
theorem bk265_284 {w : am_Wd} {l0 : Nat} {l1 : Int64} {l3 : Nat} {l4 : Nat} {l5 : Int32} : am_run 265 284 [some (.ref l0), some (.long l1), none, some (.ref l3), some (.ref l4), some (.int l5), none] [] w = if (nI 36) ≤ l5 then am_run 265 329 [some (.ref l0), some (.long l1), none, some (.ref l3), none, none, none] [] w else am_run 265 291 [some (.ref l0), some (.long l1), none, some (.ref l3), some (.ref l4), some (.int l5), none] [] w := by
  refine (bu (ls'' := [some (.ref l0), some (.long l1), none, some (.ref l3), some (.ref l4), some (.int l5), none]) (st' := [.int l5]) bf265_284 bf265_286 rfl rfl).trans ?_
  refine (bu (ls'' := [some (.ref l0), some (.long l1), none, some (.ref l3), some (.ref l4), some (.int l5), none]) (st' := [.int (nI 36), .int l5]) bf265_286 bf265_288 rfl rfl).trans ?_
  exact bic bf265_288 rfl bf265_329 bf265_291 rfl rfl rfl
theorem bk265_329 {w : am_Wd} {l0 : Nat} {l1 : Int64} {l3 : Nat} : am_run 265 329 [some (.ref l0), some (.long l1), none, some (.ref l3), none, none, none] [] w = am_run 265 105 [some (.ref l0), some (.long l1), none, some (.ref l3), none, none, none] [] w := by
  refine (bu (ls'' := [some (.ref l0), some (.long l1), none, some (.ref l3), none, none, none]) (st' := []) bf265_329 bf265_105 rfl rfl).trans ?_
  rfl
theorem bk265_291 {w : am_Wd} {l0 : Nat} {l1 : Int64} {l3 : Nat} {l4 : Nat} {l5 : Int32} : am_run 265 291 [some (.ref l0), some (.long l1), none, some (.ref l3), some (.ref l4), some (.int l5), none] [] w = am_run 265 294 [some (.ref l0), some (.long l1), none, some (.ref l3), some (.ref l4), some (.int l5), some (.int (nI 1))] [] w := by
  refine (bu (ls'' := [some (.ref l0), some (.long l1), none, some (.ref l3), some (.ref l4), some (.int l5), none]) (st' := [.int (nI 1)]) bf265_291 bf265_292 rfl rfl).trans ?_
  refine (bu (ls'' := [some (.ref l0), some (.long l1), none, some (.ref l3), some (.ref l4), some (.int l5), some (.int (nI 1))]) (st' := []) bf265_292 bf265_294 rfl rfl).trans ?_
  rfl
theorem bk265_294 {w : am_Wd} {l0 : Nat} {l1 : Int64} {l3 : Nat} {l4 : Nat} {l5 : Int32} {l6 : Int32} : am_run 265 294 [some (.ref l0), some (.long l1), none, some (.ref l3), some (.ref l4), some (.int l5), some (.int l6)] [] w = if (nI 2) < l6 then am_run 265 323 [some (.ref l0), some (.long l1), none, some (.ref l3), some (.ref l4), some (.int l5), none] [] w else am_run 265 300 [some (.ref l0), some (.long l1), none, some (.ref l3), some (.ref l4), some (.int l5), some (.int l6)] [] w := by
  refine (bu (ls'' := [some (.ref l0), some (.long l1), none, some (.ref l3), some (.ref l4), some (.int l5), some (.int l6)]) (st' := [.int l6]) bf265_294 bf265_296 rfl rfl).trans ?_
  refine (bu (ls'' := [some (.ref l0), some (.long l1), none, some (.ref l3), some (.ref l4), some (.int l5), some (.int l6)]) (st' := [.int (nI 2), .int l6]) bf265_296 bf265_297 rfl rfl).trans ?_
  exact bic bf265_297 rfl bf265_323 bf265_300 rfl rfl rfl
theorem bk265_323 {w : am_Wd} {l0 : Nat} {l1 : Int64} {l3 : Nat} {l4 : Nat} {l5 : Int32} : am_run 265 323 [some (.ref l0), some (.long l1), none, some (.ref l3), some (.ref l4), some (.int l5), none] [] w = am_run 265 284 [some (.ref l0), some (.long l1), none, some (.ref l3), some (.ref l4), some (.int (l5 + (nI 1))), none] [] w := by
  refine (bu (ls'' := [some (.ref l0), some (.long l1), none, some (.ref l3), some (.ref l4), some (.int (l5 + (nI 1))), none]) (st' := []) bf265_323 bf265_326 rfl rfl).trans ?_
  refine (bu (ls'' := [some (.ref l0), some (.long l1), none, some (.ref l3), some (.ref l4), some (.int (l5 + (nI 1))), none]) (st' := []) bf265_326 bf265_284 rfl rfl).trans ?_
  rfl
theorem bk265_300 {w : am_Wd} {l0 : Nat} {l1 : Int64} {l3 : Nat} {l4 : Nat} {l5 : Int32} {l6 : Int32} : am_run 265 300 [some (.ref l0), some (.long l1), none, some (.ref l3), some (.ref l4), some (.int l5), some (.int l6)] [] w = (am_x 174 [.ref l4, .int l5, .int l6] w).bind fun r => bct r fun v w' => am_run 265 314 [some (.ref l0), none, none, some (.ref l3), some (.ref l4), some (.int l5), some (.int l6)] (v.toList ++ [.long (l1 * (lN 31))]) w' := by
  refine (bu (ls'' := [some (.ref l0), none, none, some (.ref l3), some (.ref l4), some (.int l5), some (.int l6)]) (st' := [.long l1]) bf265_300 bf265_301 rfl rfl).trans ?_
  refine (bu (ls'' := [some (.ref l0), none, none, some (.ref l3), some (.ref l4), some (.int l5), some (.int l6)]) (st' := [.long (lN 31), .long l1]) bf265_301 bf265_304 rfl rfl).trans ?_
  refine (bu (ls'' := [some (.ref l0), none, none, some (.ref l3), some (.ref l4), some (.int l5), some (.int l6)]) (st' := [.long (l1 * (lN 31))]) bf265_304 bf265_305 rfl rfl).trans ?_
  refine (bu (ls'' := [some (.ref l0), none, none, some (.ref l3), some (.ref l4), some (.int l5), some (.int l6)]) (st' := [.ref l4, .long (l1 * (lN 31))]) bf265_305 bf265_307 rfl rfl).trans ?_
  refine (bu (ls'' := [some (.ref l0), none, none, some (.ref l3), some (.ref l4), some (.int l5), some (.int l6)]) (st' := [.int l5, .ref l4, .long (l1 * (lN 31))]) bf265_307 bf265_309 rfl rfl).trans ?_
  refine (bu (ls'' := [some (.ref l0), none, none, some (.ref l3), some (.ref l4), some (.int l5), some (.int l6)]) (st' := [.int l6, .int l5, .ref l4, .long (l1 * (lN 31))]) bf265_309 bf265_311 rfl rfl).trans ?_
  exact bkS bf265_311 bf265_314 rfl (by decide +kernel) (Nat.le_of_ble_eq_true rfl) rfl (bhd rfl)
theorem bk265_314 {w : am_Wd} {l0 : Nat} {l3 : Nat} {l4 : Nat} {l5 : Int32} {l6 : Int32} {s0 : Int32} {s1 : Int64} : am_run 265 314 [some (.ref l0), none, none, some (.ref l3), some (.ref l4), some (.int l5), some (.int l6)] [.int s0, .long s1] w = am_run 265 294 [some (.ref l0), some (.long (s1 + (Int32.toInt64 s0))), none, some (.ref l3), some (.ref l4), some (.int l5), some (.int (l6 + (nI 1)))] [] w := by
  refine (bu (ls'' := [some (.ref l0), none, none, some (.ref l3), some (.ref l4), some (.int l5), some (.int l6)]) (st' := [.long (Int32.toInt64 s0), .long s1]) bf265_314 bf265_315 rfl rfl).trans ?_
  refine (bu (ls'' := [some (.ref l0), none, none, some (.ref l3), some (.ref l4), some (.int l5), some (.int l6)]) (st' := [.long (s1 + (Int32.toInt64 s0))]) bf265_315 bf265_316 rfl rfl).trans ?_
  refine (bu (ls'' := [some (.ref l0), some (.long (s1 + (Int32.toInt64 s0))), none, some (.ref l3), some (.ref l4), some (.int l5), some (.int l6)]) (st' := []) bf265_316 bf265_317 rfl rfl).trans ?_
  refine (bu (ls'' := [some (.ref l0), some (.long (s1 + (Int32.toInt64 s0))), none, some (.ref l3), some (.ref l4), some (.int l5), some (.int (l6 + (nI 1)))]) (st' := []) bf265_317 bf265_320 rfl rfl).trans ?_
  refine (bu (ls'' := [some (.ref l0), some (.long (s1 + (Int32.toInt64 s0))), none, some (.ref l3), some (.ref l4), some (.int l5), some (.int (l6 + (nI 1)))]) (st' := []) bf265_320 bf265_294 rfl rfl).trans ?_
  rfl
theorem bf266_0 : am_fetch (am_mth 266) 0 = some (.aload_n 0, 1, [], []) := by decide +kernel
theorem bf266_1 : am_fetch (am_mth 266) 1 = some (.getfield 35, 3, [0, 11, 0, 1197], [0]) := by decide +kernel
theorem bf266_4 : am_fetch (am_mth 266) 4 = some (.ireturn, 1, [0], [0]) := by decide +kernel
theorem bk266_0 {w : am_Wd} {l0 : Nat} : am_run 266 0 [some (.ref l0)] [] w = (am_gf w l0 11 0).bind fun v => am_run 266 4 [none] (v :: []) w := by
  refine (bu (ls'' := [none]) (st' := [.ref l0]) bf266_0 bf266_1 rfl rfl).trans ?_
  exact bh bf266_1 bf266_4 rfl (fun _ _ => am_ge_rf w) rfl
theorem bk266_4 {w : am_Wd} {s0 : Int32} : am_run 266 4 [none] [.int s0] w = some (.inl (some (.int s0)), w) := by
  exact am_e2 bf266_4 rfl (am_ge_rf w)
theorem bf269_0 : am_fetch (am_mth 269) 0 = some (.new 8, 3, [0, 8, 9, 79, 80, 46], [1, 2, 3, 4, 5, 6, 7]) := by decide +kernel
theorem bf269_3 : am_fetch (am_mth 269) 3 = some (.dup, 1, [], [1, 2, 3, 4, 5, 6, 7]) := by decide +kernel
theorem bf269_4 : am_fetch (am_mth 269) 4 = some (.invokespecial 119, 3, [0, 89, 0, 81, 82, 46], [1, 2, 3, 4, 5, 6, 7]) := by decide +kernel
theorem bf269_7 : am_fetch (am_mth 269) 7 = some (.astore_n 1, 1, [], [1, 2, 3, 4, 5, 6, 7]) := by decide +kernel
theorem bf269_8 : am_fetch (am_mth 269) 8 = some (.new 120, 3, [0, 11, 12, 1159, 1160, 48], [2, 3, 4, 5, 6, 7]) := by decide +kernel
theorem bf269_11 : am_fetch (am_mth 269) 11 = some (.dup, 1, [], [2, 3, 4, 5, 6, 7]) := by decide +kernel
theorem bf269_12 : am_fetch (am_mth 269) 12 = some (.invokespecial 122, 3, [0, 172, 0, 1161, 1162, 48], [2, 3, 4, 5, 6, 7]) := by decide +kernel
theorem bf269_15 : am_fetch (am_mth 269) 15 = some (.astore_n 2, 1, [], [2, 3, 4, 5, 6, 7]) := by decide +kernel
theorem bf269_16 : am_fetch (am_mth 269) 16 = some (.new 14, 3, [0, 9, 3, 479, 480, 52], [3, 4, 5, 6, 7]) := by decide +kernel
theorem bf269_19 : am_fetch (am_mth 269) 19 = some (.dup, 1, [], [3, 4, 5, 6, 7]) := by decide +kernel
theorem bf269_20 : am_fetch (am_mth 269) 20 = some (.invokespecial 123, 3, [0, 35, 0, 481, 482, 52], [3, 4, 5, 6, 7]) := by decide +kernel
theorem bf269_23 : am_fetch (am_mth 269) 23 = some (.astore_n 3, 1, [], [3, 4, 5, 6, 7]) := by decide +kernel
theorem bf269_24 : am_fetch (am_mth 269) 24 = some (.iconst 0, 1, [], [4, 5, 6, 7]) := by decide +kernel
theorem bf269_25 : am_fetch (am_mth 269) 25 = some (.istore 4, 2, [], [4, 5, 6, 7]) := by decide +kernel
theorem bf269_27 : am_fetch (am_mth 269) 27 = some (.iload 4, 2, [], [5, 6, 7]) := by decide +kernel
theorem bf269_29 : am_fetch (am_mth 269) 29 = some (.aload_n 0, 1, [], [5, 6, 7]) := by decide +kernel
theorem bf269_30 : am_fetch (am_mth 269) 30 = some (.arraylength, 1, [], [5, 6, 7]) := by decide +kernel
theorem bf269_31 : am_fetch (am_mth 269) 31 = some (.iconst 5, 1, [], [5, 6, 7]) := by decide +kernel
theorem bf269_32 : am_fetch (am_mth 269) 32 = some (.isub, 1, [], [5, 6, 7]) := by decide +kernel
theorem bf269_33 : am_fetch (am_mth 269) 33 = some (.if_icmp .gt 2164, 3, [], [5, 6, 7]) := by decide +kernel
theorem bf269_36 : am_fetch (am_mth 269) 36 = some (.aload_n 0, 1, [], [5, 6, 7]) := by decide +kernel
theorem bf269_37 : am_fetch (am_mth 269) 37 = some (.iload 4, 2, [], [5, 6, 7]) := by decide +kernel
theorem bf269_39 : am_fetch (am_mth 269) 39 = some (.iaload, 1, [], [5, 6, 7]) := by decide +kernel
theorem bf269_40 : am_fetch (am_mth 269) 40 = some (.bipush 31, 2, [], [5, 6, 7]) := by decide +kernel
theorem bf269_42 : am_fetch (am_mth 269) 42 = some (.iand, 1, [], [5, 6, 7]) := by decide +kernel
theorem bf269_43 : am_fetch (am_mth 269) 43 = some (.tableswitch 2148 0 28 #[129, 222, 279, 392, 501, 593, 706, 791, 876, 945, 1002, 1071, 1128, 1141, 1222, 1291, 1348, 1406, 1487, 1563, 1631, 1712, 1781, 1857, 1926, 1983, 2052, 2121, 2134], 129, [], [5, 6, 7]) := by decide +kernel
theorem bf269_172 : am_fetch (am_mth 269) 172 = some (.aload_n 1, 1, [], [5, 6, 7]) := by decide +kernel
theorem bf269_173 : am_fetch (am_mth 269) 173 = some (.aload_n 0, 1, [], [5, 6, 7]) := by decide +kernel
theorem bf269_174 : am_fetch (am_mth 269) 174 = some (.iload 4, 2, [], [5, 6, 7]) := by decide +kernel
theorem bf269_176 : am_fetch (am_mth 269) 176 = some (.iconst 1, 1, [], [5, 6, 7]) := by decide +kernel
theorem bf269_177 : am_fetch (am_mth 269) 177 = some (.iadd, 1, [], [5, 6, 7]) := by decide +kernel
theorem bf269_178 : am_fetch (am_mth 269) 178 = some (.iaload, 1, [], [5, 6, 7]) := by decide +kernel
theorem bf269_179 : am_fetch (am_mth 269) 179 = some (.aload_n 0, 1, [], [5, 6, 7]) := by decide +kernel
theorem bf269_180 : am_fetch (am_mth 269) 180 = some (.iload 4, 2, [], [5, 6, 7]) := by decide +kernel
theorem bf269_182 : am_fetch (am_mth 269) 182 = some (.iconst 2, 1, [], [5, 6, 7]) := by decide +kernel
theorem bf269_183 : am_fetch (am_mth 269) 183 = some (.iadd, 1, [], [5, 6, 7]) := by decide +kernel
theorem bf269_184 : am_fetch (am_mth 269) 184 = some (.iaload, 1, [], [5, 6, 7]) := by decide +kernel
theorem bf269_185 : am_fetch (am_mth 269) 185 = some (.aload_n 0, 1, [], [5, 6, 7]) := by decide +kernel
theorem bf269_186 : am_fetch (am_mth 269) 186 = some (.iload 4, 2, [], [5, 6, 7]) := by decide +kernel
theorem bf269_188 : am_fetch (am_mth 269) 188 = some (.iconst 3, 1, [], [5, 6, 7]) := by decide +kernel
theorem bf269_189 : am_fetch (am_mth 269) 189 = some (.iadd, 1, [], [5, 6, 7]) := by decide +kernel
theorem bf269_190 : am_fetch (am_mth 269) 190 = some (.iaload, 1, [], [5, 6, 7]) := by decide +kernel
theorem bf269_191 : am_fetch (am_mth 269) 191 = some (.aload_n 0, 1, [], [5, 6, 7]) := by decide +kernel
theorem bf269_192 : am_fetch (am_mth 269) 192 = some (.iload 4, 2, [], [5, 6, 7]) := by decide +kernel
theorem bf269_194 : am_fetch (am_mth 269) 194 = some (.iconst 4, 1, [], [5, 6, 7]) := by decide +kernel
theorem bf269_195 : am_fetch (am_mth 269) 195 = some (.iadd, 1, [], [5, 6, 7]) := by decide +kernel
theorem bf269_196 : am_fetch (am_mth 269) 196 = some (.iaload, 1, [], [5, 6, 7]) := by decide +kernel
theorem bf269_197 : am_fetch (am_mth 269) 197 = some (.aload_n 3, 1, [], [5, 6, 7]) := by decide +kernel
theorem bf269_198 : am_fetch (am_mth 269) 198 = some (.invokestatic 124, 3, [0, 216, 6, 495, 496, 45], [5, 6, 7]) := by decide +kernel
theorem bf269_201 : am_fetch (am_mth 269) 201 = some (.istore 5, 2, [], [5, 6, 7]) := by decide +kernel
theorem bf269_203 : am_fetch (am_mth 269) 203 = some (.aload_n 2, 1, [], [6, 7]) := by decide +kernel
theorem bf269_204 : am_fetch (am_mth 269) 204 = some (.aload_n 0, 1, [], [6, 7]) := by decide +kernel
theorem bf269_205 : am_fetch (am_mth 269) 205 = some (.iload 4, 2, [], [6, 7]) := by decide +kernel
theorem bf269_207 : am_fetch (am_mth 269) 207 = some (.iconst 1, 1, [], [6, 7]) := by decide +kernel
theorem bf269_208 : am_fetch (am_mth 269) 208 = some (.iadd, 1, [], [6, 7]) := by decide +kernel
theorem bf269_209 : am_fetch (am_mth 269) 209 = some (.iaload, 1, [], [6, 7]) := by decide +kernel
theorem bf269_210 : am_fetch (am_mth 269) 210 = some (.aload_n 0, 1, [], [6, 7]) := by decide +kernel
theorem bf269_211 : am_fetch (am_mth 269) 211 = some (.iload 4, 2, [], [6, 7]) := by decide +kernel
theorem bf269_213 : am_fetch (am_mth 269) 213 = some (.iconst 2, 1, [], [6, 7]) := by decide +kernel
theorem bf269_214 : am_fetch (am_mth 269) 214 = some (.iadd, 1, [], [6, 7]) := by decide +kernel
theorem bf269_215 : am_fetch (am_mth 269) 215 = some (.iaload, 1, [], [6, 7]) := by decide +kernel
theorem bf269_216 : am_fetch (am_mth 269) 216 = some (.aload_n 0, 1, [], [6, 7]) := by decide +kernel
theorem bf269_217 : am_fetch (am_mth 269) 217 = some (.iload 4, 2, [], [6, 7]) := by decide +kernel
theorem bf269_219 : am_fetch (am_mth 269) 219 = some (.iconst 3, 1, [], [6, 7]) := by decide +kernel
theorem bf269_220 : am_fetch (am_mth 269) 220 = some (.iadd, 1, [], [6, 7]) := by decide +kernel
theorem bf269_221 : am_fetch (am_mth 269) 221 = some (.iaload, 1, [], [6, 7]) := by decide +kernel
theorem bf269_222 : am_fetch (am_mth 269) 222 = some (.aload_n 0, 1, [], [6, 7]) := by decide +kernel
theorem bf269_223 : am_fetch (am_mth 269) 223 = some (.iload 4, 2, [], [6, 7]) := by decide +kernel
theorem bf269_225 : am_fetch (am_mth 269) 225 = some (.iconst 4, 1, [], [6, 7]) := by decide +kernel
theorem bf269_226 : am_fetch (am_mth 269) 226 = some (.iadd, 1, [], [6, 7]) := by decide +kernel
theorem bf269_227 : am_fetch (am_mth 269) 227 = some (.iaload, 1, [], [6, 7]) := by decide +kernel
theorem bf269_228 : am_fetch (am_mth 269) 228 = some (.invokevirtual 129, 3, [0, 176, 4, 11, 1238, 1239, 1240, 48], [6, 7]) := by decide +kernel
theorem bf269_231 : am_fetch (am_mth 269) 231 = some (.istore 6, 2, [], [6, 7]) := by decide +kernel
theorem bf269_233 : am_fetch (am_mth 269) 233 = some (.aload_n 2, 1, [], [7]) := by decide +kernel
theorem bf269_234 : am_fetch (am_mth 269) 234 = some (.invokevirtual 130, 3, [0, 266, 0, 11, 1234, 1235, 1236, 48], [7]) := by decide +kernel
theorem bf269_237 : am_fetch (am_mth 269) 237 = some (.iload 5, 2, [], [7]) := by decide +kernel
theorem bf269_239 : am_fetch (am_mth 269) 239 = some (.if_icmp .eq 5, 3, [], [7]) := by decide +kernel
theorem bf269_242 : am_fetch (am_mth 269) 242 = some (.iconst 0, 1, [], [0, 1, 2, 3, 4, 5, 6, 7]) := by decide +kernel
theorem bf269_243 : am_fetch (am_mth 269) 243 = some (.ireturn, 1, [1], [0, 1, 2, 3, 4, 5, 6, 7]) := by decide +kernel
theorem bf269_244 : am_fetch (am_mth 269) 244 = some (.iload 5, 2, [], [7]) := by decide +kernel
theorem bf269_246 : am_fetch (am_mth 269) 246 = some (.ifCond .ne 16, 3, [], [5, 7]) := by decide +kernel
theorem bf269_249 : am_fetch (am_mth 269) 249 = some (.aload_n 3, 1, [], [5, 7]) := by decide +kernel
theorem bf269_250 : am_fetch (am_mth 269) 250 = some (.getfield 13, 3, [1, 9, 0, 485], [5, 7]) := by decide +kernel
theorem bf269_253 : am_fetch (am_mth 269) 253 = some (.iload 6, 2, [], [5, 7]) := by decide +kernel
theorem bf269_255 : am_fetch (am_mth 269) 255 = some (.i2l, 1, [], [5, 6, 7]) := by decide +kernel
theorem bf269_256 : am_fetch (am_mth 269) 256 = some (.lcmp, 1, [], [5, 6, 7]) := by decide +kernel
theorem bf269_257 : am_fetch (am_mth 269) 257 = some (.ifCond .eq 5, 3, [], [5, 6, 7]) := by decide +kernel
theorem bf269_260 : am_fetch (am_mth 269) 260 = some (.iconst 0, 1, [], [0, 1, 2, 3, 4, 5, 6, 7]) := by decide +kernel
theorem bf269_261 : am_fetch (am_mth 269) 261 = some (.ireturn, 1, [1], [0, 1, 2, 3, 4, 5, 6, 7]) := by decide +kernel
theorem bf269_262 : am_fetch (am_mth 269) 262 = some (.goto 1929, 3, [], [5, 6, 7]) := by decide +kernel
theorem bf269_265 : am_fetch (am_mth 269) 265 = some (.aload_n 1, 1, [], [5, 6, 7]) := by decide +kernel
theorem bf269_266 : am_fetch (am_mth 269) 266 = some (.aload_n 0, 1, [], [5, 6, 7]) := by decide +kernel
theorem bf269_267 : am_fetch (am_mth 269) 267 = some (.iload 4, 2, [], [5, 6, 7]) := by decide +kernel
theorem bf269_269 : am_fetch (am_mth 269) 269 = some (.iconst 1, 1, [], [5, 6, 7]) := by decide +kernel
theorem bf269_270 : am_fetch (am_mth 269) 270 = some (.iadd, 1, [], [5, 6, 7]) := by decide +kernel
theorem bf269_271 : am_fetch (am_mth 269) 271 = some (.iaload, 1, [], [5, 6, 7]) := by decide +kernel
theorem bf269_272 : am_fetch (am_mth 269) 272 = some (.aload_n 3, 1, [], [5, 6, 7]) := by decide +kernel
theorem bf269_273 : am_fetch (am_mth 269) 273 = some (.invokestatic 134, 3, [0, 233, 3, 510, 511, 45], [5, 6, 7]) := by decide +kernel
theorem bf269_276 : am_fetch (am_mth 269) 276 = some (.istore 5, 2, [], [5, 6, 7]) := by decide +kernel
theorem bf269_278 : am_fetch (am_mth 269) 278 = some (.aload_n 2, 1, [], [6, 7]) := by decide +kernel
theorem bf269_279 : am_fetch (am_mth 269) 279 = some (.aload_n 0, 1, [], [6, 7]) := by decide +kernel
theorem bf269_280 : am_fetch (am_mth 269) 280 = some (.iload 4, 2, [], [6, 7]) := by decide +kernel
theorem bf269_282 : am_fetch (am_mth 269) 282 = some (.iconst 1, 1, [], [6, 7]) := by decide +kernel
theorem bf269_283 : am_fetch (am_mth 269) 283 = some (.iadd, 1, [], [6, 7]) := by decide +kernel
theorem bf269_284 : am_fetch (am_mth 269) 284 = some (.iaload, 1, [], [6, 7]) := by decide +kernel
theorem bf269_285 : am_fetch (am_mth 269) 285 = some (.invokevirtual 137, 3, [0, 206, 1, 11, 1269, 1270, 1271, 48], [6, 7]) := by decide +kernel
theorem bf269_288 : am_fetch (am_mth 269) 288 = some (.istore 6, 2, [], [6, 7]) := by decide +kernel
theorem bf269_290 : am_fetch (am_mth 269) 290 = some (.aload_n 2, 1, [], [7]) := by decide +kernel
theorem bf269_291 : am_fetch (am_mth 269) 291 = some (.invokevirtual 130, 3, [0, 266, 0, 11, 1234, 1235, 1236, 48], [7]) := by decide +kernel
theorem bf269_294 : am_fetch (am_mth 269) 294 = some (.iload 5, 2, [], [7]) := by decide +kernel
theorem bf269_296 : am_fetch (am_mth 269) 296 = some (.if_icmp .eq 5, 3, [], [7]) := by decide +kernel
theorem bf269_299 : am_fetch (am_mth 269) 299 = some (.iconst 0, 1, [], [0, 1, 2, 3, 4, 5, 6, 7]) := by decide +kernel
theorem bf269_300 : am_fetch (am_mth 269) 300 = some (.ireturn, 1, [1], [0, 1, 2, 3, 4, 5, 6, 7]) := by decide +kernel
theorem bf269_301 : am_fetch (am_mth 269) 301 = some (.iload 5, 2, [], [7]) := by decide +kernel
theorem bf269_303 : am_fetch (am_mth 269) 303 = some (.ifCond .ne 16, 3, [], [5, 7]) := by decide +kernel
theorem bf269_306 : am_fetch (am_mth 269) 306 = some (.aload_n 3, 1, [], [5, 7]) := by decide +kernel
theorem bf269_307 : am_fetch (am_mth 269) 307 = some (.getfield 13, 3, [1, 9, 0, 485], [5, 7]) := by decide +kernel
theorem bf269_310 : am_fetch (am_mth 269) 310 = some (.iload 6, 2, [], [5, 7]) := by decide +kernel
theorem bf269_312 : am_fetch (am_mth 269) 312 = some (.i2l, 1, [], [5, 6, 7]) := by decide +kernel
theorem bf269_313 : am_fetch (am_mth 269) 313 = some (.lcmp, 1, [], [5, 6, 7]) := by decide +kernel
theorem bf269_314 : am_fetch (am_mth 269) 314 = some (.ifCond .eq 5, 3, [], [5, 6, 7]) := by decide +kernel
theorem bf269_317 : am_fetch (am_mth 269) 317 = some (.iconst 0, 1, [], [0, 1, 2, 3, 4, 5, 6, 7]) := by decide +kernel
theorem bf269_318 : am_fetch (am_mth 269) 318 = some (.ireturn, 1, [1], [0, 1, 2, 3, 4, 5, 6, 7]) := by decide +kernel
theorem bf269_319 : am_fetch (am_mth 269) 319 = some (.goto 1872, 3, [], [5, 6, 7]) := by decide +kernel
theorem bf269_322 : am_fetch (am_mth 269) 322 = some (.aload_n 1, 1, [], [5, 6, 7]) := by decide +kernel
theorem bf269_323 : am_fetch (am_mth 269) 323 = some (.aload_n 0, 1, [], [5, 6, 7]) := by decide +kernel
theorem bf269_324 : am_fetch (am_mth 269) 324 = some (.iload 4, 2, [], [5, 6, 7]) := by decide +kernel
theorem bf269_326 : am_fetch (am_mth 269) 326 = some (.iconst 1, 1, [], [5, 6, 7]) := by decide +kernel
theorem bf269_327 : am_fetch (am_mth 269) 327 = some (.iadd, 1, [], [5, 6, 7]) := by decide +kernel
theorem bf269_328 : am_fetch (am_mth 269) 328 = some (.iaload, 1, [], [5, 6, 7]) := by decide +kernel
theorem bf269_329 : am_fetch (am_mth 269) 329 = some (.aload_n 0, 1, [], [5, 6, 7]) := by decide +kernel
theorem bf269_330 : am_fetch (am_mth 269) 330 = some (.iload 4, 2, [], [5, 6, 7]) := by decide +kernel
theorem bf269_332 : am_fetch (am_mth 269) 332 = some (.iconst 2, 1, [], [5, 6, 7]) := by decide +kernel
theorem bf269_333 : am_fetch (am_mth 269) 333 = some (.iadd, 1, [], [5, 6, 7]) := by decide +kernel
theorem bf269_334 : am_fetch (am_mth 269) 334 = some (.iaload, 1, [], [5, 6, 7]) := by decide +kernel
theorem bf269_335 : am_fetch (am_mth 269) 335 = some (.ifCond .eq 7, 3, [], [5, 6, 7]) := by decide +kernel
theorem bf269_338 : am_fetch (am_mth 269) 338 = some (.iconst 1, 1, [], [5, 6, 7]) := by decide +kernel
theorem bf269_339 : am_fetch (am_mth 269) 339 = some (.goto 4, 3, [], [5, 6, 7]) := by decide +kernel
theorem bf269_342 : am_fetch (am_mth 269) 342 = some (.iconst 0, 1, [], [5, 6, 7]) := by decide +kernel
theorem bf269_343 : am_fetch (am_mth 269) 343 = some (.aload_n 0, 1, [], [5, 6, 7]) := by decide +kernel
theorem bf269_344 : am_fetch (am_mth 269) 344 = some (.iload 4, 2, [], [5, 6, 7]) := by decide +kernel
theorem bf269_346 : am_fetch (am_mth 269) 346 = some (.iconst 3, 1, [], [5, 6, 7]) := by decide +kernel
theorem bf269_347 : am_fetch (am_mth 269) 347 = some (.iadd, 1, [], [5, 6, 7]) := by decide +kernel
theorem bf269_348 : am_fetch (am_mth 269) 348 = some (.iaload, 1, [], [5, 6, 7]) := by decide +kernel
theorem bf269_349 : am_fetch (am_mth 269) 349 = some (.ifCond .eq 7, 3, [], [5, 6, 7]) := by decide +kernel
theorem bf269_352 : am_fetch (am_mth 269) 352 = some (.iconst 1, 1, [], [5, 6, 7]) := by decide +kernel
theorem bf269_353 : am_fetch (am_mth 269) 353 = some (.goto 4, 3, [], [5, 6, 7]) := by decide +kernel
theorem bf269_356 : am_fetch (am_mth 269) 356 = some (.iconst 0, 1, [], [5, 6, 7]) := by decide +kernel
theorem bf269_357 : am_fetch (am_mth 269) 357 = some (.aload_n 3, 1, [], [5, 6, 7]) := by decide +kernel
theorem bf269_358 : am_fetch (am_mth 269) 358 = some (.invokestatic 138, 3, [0, 147, 5, 525, 526, 45], [5, 6, 7]) := by decide +kernel
theorem bf269_361 : am_fetch (am_mth 269) 361 = some (.istore 5, 2, [], [5, 6, 7]) := by decide +kernel
theorem bf269_363 : am_fetch (am_mth 269) 363 = some (.aload_n 2, 1, [], [6, 7]) := by decide +kernel
theorem bf269_364 : am_fetch (am_mth 269) 364 = some (.aload_n 0, 1, [], [6, 7]) := by decide +kernel
theorem bf269_365 : am_fetch (am_mth 269) 365 = some (.iload 4, 2, [], [6, 7]) := by decide +kernel
theorem bf269_367 : am_fetch (am_mth 269) 367 = some (.iconst 1, 1, [], [6, 7]) := by decide +kernel
theorem bf269_368 : am_fetch (am_mth 269) 368 = some (.iadd, 1, [], [6, 7]) := by decide +kernel
theorem bf269_369 : am_fetch (am_mth 269) 369 = some (.iaload, 1, [], [6, 7]) := by decide +kernel
theorem bf269_370 : am_fetch (am_mth 269) 370 = some (.aload_n 0, 1, [], [6, 7]) := by decide +kernel
theorem bf269_371 : am_fetch (am_mth 269) 371 = some (.iload 4, 2, [], [6, 7]) := by decide +kernel
theorem bf269_373 : am_fetch (am_mth 269) 373 = some (.iconst 2, 1, [], [6, 7]) := by decide +kernel
theorem bf269_374 : am_fetch (am_mth 269) 374 = some (.iadd, 1, [], [6, 7]) := by decide +kernel
theorem bf269_375 : am_fetch (am_mth 269) 375 = some (.iaload, 1, [], [6, 7]) := by decide +kernel
theorem bf269_376 : am_fetch (am_mth 269) 376 = some (.ifCond .eq 7, 3, [], [6, 7]) := by decide +kernel
theorem bf269_379 : am_fetch (am_mth 269) 379 = some (.iconst 1, 1, [], [6, 7]) := by decide +kernel
theorem bf269_380 : am_fetch (am_mth 269) 380 = some (.goto 4, 3, [], [6, 7]) := by decide +kernel
theorem bf269_383 : am_fetch (am_mth 269) 383 = some (.iconst 0, 1, [], [6, 7]) := by decide +kernel
theorem bf269_384 : am_fetch (am_mth 269) 384 = some (.aload_n 0, 1, [], [6, 7]) := by decide +kernel
theorem bf269_385 : am_fetch (am_mth 269) 385 = some (.iload 4, 2, [], [6, 7]) := by decide +kernel
theorem bf269_387 : am_fetch (am_mth 269) 387 = some (.iconst 3, 1, [], [6, 7]) := by decide +kernel
theorem bf269_388 : am_fetch (am_mth 269) 388 = some (.iadd, 1, [], [6, 7]) := by decide +kernel
theorem bf269_389 : am_fetch (am_mth 269) 389 = some (.iaload, 1, [], [6, 7]) := by decide +kernel
theorem bf269_390 : am_fetch (am_mth 269) 390 = some (.ifCond .eq 7, 3, [], [6, 7]) := by decide +kernel
theorem bf269_393 : am_fetch (am_mth 269) 393 = some (.iconst 1, 1, [], [6, 7]) := by decide +kernel
theorem bf269_394 : am_fetch (am_mth 269) 394 = some (.goto 4, 3, [], [6, 7]) := by decide +kernel
theorem bf269_397 : am_fetch (am_mth 269) 397 = some (.iconst 0, 1, [], [6, 7]) := by decide +kernel
theorem bf269_398 : am_fetch (am_mth 269) 398 = some (.invokevirtual 141, 3, [0, 144, 3, 11, 1280, 1281, 1282, 48], [6, 7]) := by decide +kernel
theorem bf269_401 : am_fetch (am_mth 269) 401 = some (.istore 6, 2, [], [6, 7]) := by decide +kernel
theorem bf269_403 : am_fetch (am_mth 269) 403 = some (.aload_n 2, 1, [], [7]) := by decide +kernel
theorem bf269_404 : am_fetch (am_mth 269) 404 = some (.invokevirtual 130, 3, [0, 266, 0, 11, 1234, 1235, 1236, 48], [7]) := by decide +kernel
theorem bf269_407 : am_fetch (am_mth 269) 407 = some (.iload 5, 2, [], [7]) := by decide +kernel
theorem bf269_409 : am_fetch (am_mth 269) 409 = some (.if_icmp .eq 5, 3, [], [7]) := by decide +kernel
theorem bf269_412 : am_fetch (am_mth 269) 412 = some (.iconst 0, 1, [], [0, 1, 2, 3, 4, 5, 6, 7]) := by decide +kernel
theorem bf269_413 : am_fetch (am_mth 269) 413 = some (.ireturn, 1, [1], [0, 1, 2, 3, 4, 5, 6, 7]) := by decide +kernel
theorem bf269_414 : am_fetch (am_mth 269) 414 = some (.iload 5, 2, [], [7]) := by decide +kernel
theorem bf269_416 : am_fetch (am_mth 269) 416 = some (.ifCond .ne 16, 3, [], [5, 7]) := by decide +kernel
theorem bf269_419 : am_fetch (am_mth 269) 419 = some (.aload_n 3, 1, [], [5, 7]) := by decide +kernel
theorem bf269_420 : am_fetch (am_mth 269) 420 = some (.getfield 13, 3, [1, 9, 0, 485], [5, 7]) := by decide +kernel
theorem bf269_423 : am_fetch (am_mth 269) 423 = some (.iload 6, 2, [], [5, 7]) := by decide +kernel
theorem bf269_425 : am_fetch (am_mth 269) 425 = some (.i2l, 1, [], [5, 6, 7]) := by decide +kernel
theorem bf269_426 : am_fetch (am_mth 269) 426 = some (.lcmp, 1, [], [5, 6, 7]) := by decide +kernel
theorem bf269_427 : am_fetch (am_mth 269) 427 = some (.ifCond .eq 5, 3, [], [5, 6, 7]) := by decide +kernel
theorem bf269_430 : am_fetch (am_mth 269) 430 = some (.iconst 0, 1, [], [0, 1, 2, 3, 4, 5, 6, 7]) := by decide +kernel
theorem bf269_431 : am_fetch (am_mth 269) 431 = some (.ireturn, 1, [1], [0, 1, 2, 3, 4, 5, 6, 7]) := by decide +kernel
theorem bf269_432 : am_fetch (am_mth 269) 432 = some (.goto 1759, 3, [], [5, 6, 7]) := by decide +kernel
theorem bf269_435 : am_fetch (am_mth 269) 435 = some (.aload_n 1, 1, [], [5, 6, 7]) := by decide +kernel
theorem bf269_436 : am_fetch (am_mth 269) 436 = some (.aload_n 0, 1, [], [5, 6, 7]) := by decide +kernel
theorem bf269_437 : am_fetch (am_mth 269) 437 = some (.iload 4, 2, [], [5, 6, 7]) := by decide +kernel
theorem bf269_439 : am_fetch (am_mth 269) 439 = some (.iconst 1, 1, [], [5, 6, 7]) := by decide +kernel
theorem bf269_440 : am_fetch (am_mth 269) 440 = some (.iadd, 1, [], [5, 6, 7]) := by decide +kernel
theorem bf269_441 : am_fetch (am_mth 269) 441 = some (.iaload, 1, [], [5, 6, 7]) := by decide +kernel
theorem bf269_442 : am_fetch (am_mth 269) 442 = some (.aload_n 0, 1, [], [5, 6, 7]) := by decide +kernel
theorem bf269_443 : am_fetch (am_mth 269) 443 = some (.iload 4, 2, [], [5, 6, 7]) := by decide +kernel
theorem bf269_445 : am_fetch (am_mth 269) 445 = some (.iconst 2, 1, [], [5, 6, 7]) := by decide +kernel
theorem bf269_446 : am_fetch (am_mth 269) 446 = some (.iadd, 1, [], [5, 6, 7]) := by decide +kernel
theorem bf269_447 : am_fetch (am_mth 269) 447 = some (.iaload, 1, [], [5, 6, 7]) := by decide +kernel
theorem bf269_448 : am_fetch (am_mth 269) 448 = some (.aload_n 0, 1, [], [5, 6, 7]) := by decide +kernel
theorem bf269_449 : am_fetch (am_mth 269) 449 = some (.iload 4, 2, [], [5, 6, 7]) := by decide +kernel
theorem bf269_451 : am_fetch (am_mth 269) 451 = some (.iconst 3, 1, [], [5, 6, 7]) := by decide +kernel
theorem bf269_452 : am_fetch (am_mth 269) 452 = some (.iadd, 1, [], [5, 6, 7]) := by decide +kernel
theorem bf269_453 : am_fetch (am_mth 269) 453 = some (.iaload, 1, [], [5, 6, 7]) := by decide +kernel
theorem bf269_454 : am_fetch (am_mth 269) 454 = some (.aload_n 0, 1, [], [5, 6, 7]) := by decide +kernel
theorem bf269_455 : am_fetch (am_mth 269) 455 = some (.iload 4, 2, [], [5, 6, 7]) := by decide +kernel
theorem bf269_457 : am_fetch (am_mth 269) 457 = some (.iconst 4, 1, [], [5, 6, 7]) := by decide +kernel
theorem bf269_458 : am_fetch (am_mth 269) 458 = some (.iadd, 1, [], [5, 6, 7]) := by decide +kernel
theorem bf269_459 : am_fetch (am_mth 269) 459 = some (.iaload, 1, [], [5, 6, 7]) := by decide +kernel
theorem bf269_460 : am_fetch (am_mth 269) 460 = some (.ifCond .eq 7, 3, [], [5, 6, 7]) := by decide +kernel
theorem bf269_463 : am_fetch (am_mth 269) 463 = some (.iconst 1, 1, [], [5, 6, 7]) := by decide +kernel
theorem bf269_464 : am_fetch (am_mth 269) 464 = some (.goto 4, 3, [], [5, 6, 7]) := by decide +kernel
theorem bf269_467 : am_fetch (am_mth 269) 467 = some (.iconst 0, 1, [], [5, 6, 7]) := by decide +kernel
theorem bf269_468 : am_fetch (am_mth 269) 468 = some (.aload_n 3, 1, [], [5, 6, 7]) := by decide +kernel
theorem bf269_469 : am_fetch (am_mth 269) 469 = some (.invokestatic 142, 3, [0, 217, 6, 537, 538, 45], [5, 6, 7]) := by decide +kernel
theorem bf269_472 : am_fetch (am_mth 269) 472 = some (.istore 5, 2, [], [5, 6, 7]) := by decide +kernel
theorem bf269_474 : am_fetch (am_mth 269) 474 = some (.aload_n 2, 1, [], [6, 7]) := by decide +kernel
theorem bf269_475 : am_fetch (am_mth 269) 475 = some (.aload_n 0, 1, [], [6, 7]) := by decide +kernel
theorem bf269_476 : am_fetch (am_mth 269) 476 = some (.iload 4, 2, [], [6, 7]) := by decide +kernel
theorem bf269_478 : am_fetch (am_mth 269) 478 = some (.iconst 1, 1, [], [6, 7]) := by decide +kernel
theorem bf269_479 : am_fetch (am_mth 269) 479 = some (.iadd, 1, [], [6, 7]) := by decide +kernel
theorem bf269_480 : am_fetch (am_mth 269) 480 = some (.iaload, 1, [], [6, 7]) := by decide +kernel
theorem bf269_481 : am_fetch (am_mth 269) 481 = some (.aload_n 0, 1, [], [6, 7]) := by decide +kernel
theorem bf269_482 : am_fetch (am_mth 269) 482 = some (.iload 4, 2, [], [6, 7]) := by decide +kernel
theorem bf269_484 : am_fetch (am_mth 269) 484 = some (.iconst 2, 1, [], [6, 7]) := by decide +kernel
theorem bf269_485 : am_fetch (am_mth 269) 485 = some (.iadd, 1, [], [6, 7]) := by decide +kernel
theorem bf269_486 : am_fetch (am_mth 269) 486 = some (.iaload, 1, [], [6, 7]) := by decide +kernel
theorem bf269_487 : am_fetch (am_mth 269) 487 = some (.aload_n 0, 1, [], [6, 7]) := by decide +kernel
theorem bf269_488 : am_fetch (am_mth 269) 488 = some (.iload 4, 2, [], [6, 7]) := by decide +kernel
theorem bf269_490 : am_fetch (am_mth 269) 490 = some (.iconst 3, 1, [], [6, 7]) := by decide +kernel
theorem bf269_491 : am_fetch (am_mth 269) 491 = some (.iadd, 1, [], [6, 7]) := by decide +kernel
theorem bf269_492 : am_fetch (am_mth 269) 492 = some (.iaload, 1, [], [6, 7]) := by decide +kernel
theorem bf269_493 : am_fetch (am_mth 269) 493 = some (.aload_n 0, 1, [], [6, 7]) := by decide +kernel
theorem bf269_494 : am_fetch (am_mth 269) 494 = some (.iload 4, 2, [], [6, 7]) := by decide +kernel
theorem bf269_496 : am_fetch (am_mth 269) 496 = some (.iconst 4, 1, [], [6, 7]) := by decide +kernel
theorem bf269_497 : am_fetch (am_mth 269) 497 = some (.iadd, 1, [], [6, 7]) := by decide +kernel
theorem bf269_498 : am_fetch (am_mth 269) 498 = some (.iaload, 1, [], [6, 7]) := by decide +kernel
theorem bf269_499 : am_fetch (am_mth 269) 499 = some (.ifCond .eq 7, 3, [], [6, 7]) := by decide +kernel
theorem bf269_502 : am_fetch (am_mth 269) 502 = some (.iconst 1, 1, [], [6, 7]) := by decide +kernel
theorem bf269_503 : am_fetch (am_mth 269) 503 = some (.goto 4, 3, [], [6, 7]) := by decide +kernel
theorem bf269_506 : am_fetch (am_mth 269) 506 = some (.iconst 0, 1, [], [6, 7]) := by decide +kernel
theorem bf269_507 : am_fetch (am_mth 269) 507 = some (.invokevirtual 145, 3, [0, 207, 4, 11, 1287, 1288, 1289, 48], [6, 7]) := by decide +kernel
theorem bf269_510 : am_fetch (am_mth 269) 510 = some (.istore 6, 2, [], [6, 7]) := by decide +kernel
theorem bf269_512 : am_fetch (am_mth 269) 512 = some (.aload_n 2, 1, [], [7]) := by decide +kernel
theorem bf269_513 : am_fetch (am_mth 269) 513 = some (.invokevirtual 130, 3, [0, 266, 0, 11, 1234, 1235, 1236, 48], [7]) := by decide +kernel
theorem bf269_516 : am_fetch (am_mth 269) 516 = some (.iload 5, 2, [], [7]) := by decide +kernel
theorem bf269_518 : am_fetch (am_mth 269) 518 = some (.if_icmp .eq 5, 3, [], [7]) := by decide +kernel
theorem bf269_521 : am_fetch (am_mth 269) 521 = some (.iconst 0, 1, [], [0, 1, 2, 3, 4, 5, 6, 7]) := by decide +kernel
theorem bf269_522 : am_fetch (am_mth 269) 522 = some (.ireturn, 1, [1], [0, 1, 2, 3, 4, 5, 6, 7]) := by decide +kernel
theorem bf269_523 : am_fetch (am_mth 269) 523 = some (.iload 5, 2, [], [7]) := by decide +kernel
theorem bf269_525 : am_fetch (am_mth 269) 525 = some (.ifCond .ne 16, 3, [], [5, 7]) := by decide +kernel
theorem bf269_528 : am_fetch (am_mth 269) 528 = some (.aload_n 3, 1, [], [5, 7]) := by decide +kernel
theorem bf269_529 : am_fetch (am_mth 269) 529 = some (.getfield 13, 3, [1, 9, 0, 485], [5, 7]) := by decide +kernel
theorem bf269_532 : am_fetch (am_mth 269) 532 = some (.iload 6, 2, [], [5, 7]) := by decide +kernel
theorem bf269_534 : am_fetch (am_mth 269) 534 = some (.i2l, 1, [], [5, 6, 7]) := by decide +kernel
theorem bf269_535 : am_fetch (am_mth 269) 535 = some (.lcmp, 1, [], [5, 6, 7]) := by decide +kernel
theorem bf269_536 : am_fetch (am_mth 269) 536 = some (.ifCond .eq 5, 3, [], [5, 6, 7]) := by decide +kernel
theorem bf269_539 : am_fetch (am_mth 269) 539 = some (.iconst 0, 1, [], [0, 1, 2, 3, 4, 5, 6, 7]) := by decide +kernel
theorem bf269_540 : am_fetch (am_mth 269) 540 = some (.ireturn, 1, [1], [0, 1, 2, 3, 4, 5, 6, 7]) := by decide +kernel
theorem bf269_541 : am_fetch (am_mth 269) 541 = some (.goto 1650, 3, [], [5, 6, 7]) := by decide +kernel
theorem bf269_544 : am_fetch (am_mth 269) 544 = some (.aload_n 1, 1, [], [5, 6, 7]) := by decide +kernel
theorem bf269_545 : am_fetch (am_mth 269) 545 = some (.aload_n 0, 1, [], [5, 6, 7]) := by decide +kernel
theorem bf269_546 : am_fetch (am_mth 269) 546 = some (.iload 4, 2, [], [5, 6, 7]) := by decide +kernel
theorem bf269_548 : am_fetch (am_mth 269) 548 = some (.iconst 1, 1, [], [5, 6, 7]) := by decide +kernel
theorem bf269_549 : am_fetch (am_mth 269) 549 = some (.iadd, 1, [], [5, 6, 7]) := by decide +kernel
theorem bf269_550 : am_fetch (am_mth 269) 550 = some (.iaload, 1, [], [5, 6, 7]) := by decide +kernel
theorem bf269_551 : am_fetch (am_mth 269) 551 = some (.aload_n 0, 1, [], [5, 6, 7]) := by decide +kernel
theorem bf269_552 : am_fetch (am_mth 269) 552 = some (.iload 4, 2, [], [5, 6, 7]) := by decide +kernel
theorem bf269_554 : am_fetch (am_mth 269) 554 = some (.iconst 2, 1, [], [5, 6, 7]) := by decide +kernel
theorem bf269_555 : am_fetch (am_mth 269) 555 = some (.iadd, 1, [], [5, 6, 7]) := by decide +kernel
theorem bf269_556 : am_fetch (am_mth 269) 556 = some (.iaload, 1, [], [5, 6, 7]) := by decide +kernel
theorem bf269_557 : am_fetch (am_mth 269) 557 = some (.ifCond .eq 7, 3, [], [5, 6, 7]) := by decide +kernel
theorem bf269_560 : am_fetch (am_mth 269) 560 = some (.iconst 1, 1, [], [5, 6, 7]) := by decide +kernel
theorem bf269_561 : am_fetch (am_mth 269) 561 = some (.goto 4, 3, [], [5, 6, 7]) := by decide +kernel
theorem bf269_564 : am_fetch (am_mth 269) 564 = some (.iconst 0, 1, [], [5, 6, 7]) := by decide +kernel
theorem bf269_565 : am_fetch (am_mth 269) 565 = some (.aload_n 3, 1, [], [5, 6, 7]) := by decide +kernel
theorem bf269_566 : am_fetch (am_mth 269) 566 = some (.invokestatic 146, 3, [0, 253, 4, 646, 647, 45], [5, 6, 7]) := by decide +kernel
theorem bf269_569 : am_fetch (am_mth 269) 569 = some (.istore 5, 2, [], [5, 6, 7]) := by decide +kernel
theorem bf269_571 : am_fetch (am_mth 269) 571 = some (.aload_n 2, 1, [], [6, 7]) := by decide +kernel
theorem bf269_572 : am_fetch (am_mth 269) 572 = some (.aload_n 0, 1, [], [6, 7]) := by decide +kernel
theorem bf269_573 : am_fetch (am_mth 269) 573 = some (.iload 4, 2, [], [6, 7]) := by decide +kernel
theorem bf269_575 : am_fetch (am_mth 269) 575 = some (.iconst 1, 1, [], [6, 7]) := by decide +kernel
theorem bf269_576 : am_fetch (am_mth 269) 576 = some (.iadd, 1, [], [6, 7]) := by decide +kernel
theorem bf269_577 : am_fetch (am_mth 269) 577 = some (.iaload, 1, [], [6, 7]) := by decide +kernel
theorem bf269_578 : am_fetch (am_mth 269) 578 = some (.aload_n 0, 1, [], [6, 7]) := by decide +kernel
theorem bf269_579 : am_fetch (am_mth 269) 579 = some (.iload 4, 2, [], [6, 7]) := by decide +kernel
theorem bf269_581 : am_fetch (am_mth 269) 581 = some (.iconst 2, 1, [], [6, 7]) := by decide +kernel
theorem bf269_582 : am_fetch (am_mth 269) 582 = some (.iadd, 1, [], [6, 7]) := by decide +kernel
theorem bf269_583 : am_fetch (am_mth 269) 583 = some (.iaload, 1, [], [6, 7]) := by decide +kernel
theorem bf269_584 : am_fetch (am_mth 269) 584 = some (.ifCond .eq 7, 3, [], [6, 7]) := by decide +kernel
theorem bf269_587 : am_fetch (am_mth 269) 587 = some (.iconst 1, 1, [], [6, 7]) := by decide +kernel
theorem bf269_588 : am_fetch (am_mth 269) 588 = some (.goto 4, 3, [], [6, 7]) := by decide +kernel
theorem bf269_591 : am_fetch (am_mth 269) 591 = some (.iconst 0, 1, [], [6, 7]) := by decide +kernel
theorem bf269_592 : am_fetch (am_mth 269) 592 = some (.invokevirtual 149, 3, [0, 260, 2, 11, 1383, 1384, 1385, 48], [6, 7]) := by decide +kernel
theorem bf269_595 : am_fetch (am_mth 269) 595 = some (.istore 6, 2, [], [6, 7]) := by decide +kernel
theorem bf269_597 : am_fetch (am_mth 269) 597 = some (.aload_n 2, 1, [], [7]) := by decide +kernel
theorem bf269_598 : am_fetch (am_mth 269) 598 = some (.invokevirtual 130, 3, [0, 266, 0, 11, 1234, 1235, 1236, 48], [7]) := by decide +kernel
theorem bf269_601 : am_fetch (am_mth 269) 601 = some (.iload 5, 2, [], [7]) := by decide +kernel
theorem bf269_603 : am_fetch (am_mth 269) 603 = some (.if_icmp .eq 5, 3, [], [7]) := by decide +kernel
theorem bf269_606 : am_fetch (am_mth 269) 606 = some (.iconst 0, 1, [], [0, 1, 2, 3, 4, 5, 6, 7]) := by decide +kernel
theorem bf269_607 : am_fetch (am_mth 269) 607 = some (.ireturn, 1, [1], [0, 1, 2, 3, 4, 5, 6, 7]) := by decide +kernel
theorem bf269_608 : am_fetch (am_mth 269) 608 = some (.iload 5, 2, [], [7]) := by decide +kernel
theorem bf269_610 : am_fetch (am_mth 269) 610 = some (.ifCond .ne 23, 3, [], [5, 7]) := by decide +kernel
theorem bf269_613 : am_fetch (am_mth 269) 613 = some (.aload_n 3, 1, [], [5, 7]) := by decide +kernel
theorem bf269_614 : am_fetch (am_mth 269) 614 = some (.getfield 13, 3, [1, 9, 0, 485], [5, 7]) := by decide +kernel
theorem bf269_617 : am_fetch (am_mth 269) 617 = some (.iload 6, 2, [], [5, 7]) := by decide +kernel
theorem bf269_619 : am_fetch (am_mth 269) 619 = some (.ifCond .eq 7, 3, [], [5, 6, 7]) := by decide +kernel
theorem bf269_622 : am_fetch (am_mth 269) 622 = some (.lconst 1, 1, [], [5, 6, 7]) := by decide +kernel
theorem bf269_623 : am_fetch (am_mth 269) 623 = some (.goto 4, 3, [], [5, 6, 7]) := by decide +kernel
theorem bf269_626 : am_fetch (am_mth 269) 626 = some (.lconst 0, 1, [], [5, 6, 7]) := by decide +kernel
theorem bf269_627 : am_fetch (am_mth 269) 627 = some (.lcmp, 1, [], [5, 6, 7]) := by decide +kernel
theorem bf269_628 : am_fetch (am_mth 269) 628 = some (.ifCond .eq 5, 3, [], [5, 6, 7]) := by decide +kernel
theorem bf269_631 : am_fetch (am_mth 269) 631 = some (.iconst 0, 1, [], [0, 1, 2, 3, 4, 5, 6, 7]) := by decide +kernel
theorem bf269_632 : am_fetch (am_mth 269) 632 = some (.ireturn, 1, [1], [0, 1, 2, 3, 4, 5, 6, 7]) := by decide +kernel
theorem bf269_633 : am_fetch (am_mth 269) 633 = some (.goto 1558, 3, [], [5, 6, 7]) := by decide +kernel
theorem bf269_636 : am_fetch (am_mth 269) 636 = some (.aload_n 1, 1, [], [5, 6, 7]) := by decide +kernel
theorem bf269_637 : am_fetch (am_mth 269) 637 = some (.aload_n 0, 1, [], [5, 6, 7]) := by decide +kernel
theorem bf269_638 : am_fetch (am_mth 269) 638 = some (.iload 4, 2, [], [5, 6, 7]) := by decide +kernel
theorem bf269_640 : am_fetch (am_mth 269) 640 = some (.iconst 1, 1, [], [5, 6, 7]) := by decide +kernel
theorem bf269_641 : am_fetch (am_mth 269) 641 = some (.iadd, 1, [], [5, 6, 7]) := by decide +kernel
theorem bf269_642 : am_fetch (am_mth 269) 642 = some (.iaload, 1, [], [5, 6, 7]) := by decide +kernel
theorem bf269_643 : am_fetch (am_mth 269) 643 = some (.aload_n 0, 1, [], [5, 6, 7]) := by decide +kernel
theorem bf269_644 : am_fetch (am_mth 269) 644 = some (.iload 4, 2, [], [5, 6, 7]) := by decide +kernel
theorem bf269_646 : am_fetch (am_mth 269) 646 = some (.iconst 2, 1, [], [5, 6, 7]) := by decide +kernel
theorem bf269_647 : am_fetch (am_mth 269) 647 = some (.iadd, 1, [], [5, 6, 7]) := by decide +kernel
theorem bf269_648 : am_fetch (am_mth 269) 648 = some (.iaload, 1, [], [5, 6, 7]) := by decide +kernel
theorem bf269_649 : am_fetch (am_mth 269) 649 = some (.ifCond .eq 7, 3, [], [5, 6, 7]) := by decide +kernel
theorem bf269_652 : am_fetch (am_mth 269) 652 = some (.iconst 1, 1, [], [5, 6, 7]) := by decide +kernel
theorem bf269_653 : am_fetch (am_mth 269) 653 = some (.goto 4, 3, [], [5, 6, 7]) := by decide +kernel
theorem bf269_656 : am_fetch (am_mth 269) 656 = some (.iconst 0, 1, [], [5, 6, 7]) := by decide +kernel
theorem bf269_657 : am_fetch (am_mth 269) 657 = some (.aload_n 0, 1, [], [5, 6, 7]) := by decide +kernel
theorem bf269_658 : am_fetch (am_mth 269) 658 = some (.iload 4, 2, [], [5, 6, 7]) := by decide +kernel
theorem bf269_660 : am_fetch (am_mth 269) 660 = some (.iconst 3, 1, [], [5, 6, 7]) := by decide +kernel
theorem bf269_661 : am_fetch (am_mth 269) 661 = some (.iadd, 1, [], [5, 6, 7]) := by decide +kernel
theorem bf269_662 : am_fetch (am_mth 269) 662 = some (.iaload, 1, [], [5, 6, 7]) := by decide +kernel
theorem bf269_663 : am_fetch (am_mth 269) 663 = some (.ifCond .eq 7, 3, [], [5, 6, 7]) := by decide +kernel
theorem bf269_666 : am_fetch (am_mth 269) 666 = some (.iconst 1, 1, [], [5, 6, 7]) := by decide +kernel
theorem bf269_667 : am_fetch (am_mth 269) 667 = some (.goto 4, 3, [], [5, 6, 7]) := by decide +kernel
theorem bf269_670 : am_fetch (am_mth 269) 670 = some (.iconst 0, 1, [], [5, 6, 7]) := by decide +kernel
theorem bf269_671 : am_fetch (am_mth 269) 671 = some (.aload_n 3, 1, [], [5, 6, 7]) := by decide +kernel
theorem bf269_672 : am_fetch (am_mth 269) 672 = some (.invokestatic 150, 3, [0, 254, 5, 716, 717, 45], [5, 6, 7]) := by decide +kernel
theorem bf269_675 : am_fetch (am_mth 269) 675 = some (.istore 5, 2, [], [5, 6, 7]) := by decide +kernel
theorem bf269_677 : am_fetch (am_mth 269) 677 = some (.aload_n 2, 1, [], [6, 7]) := by decide +kernel
theorem bf269_678 : am_fetch (am_mth 269) 678 = some (.aload_n 0, 1, [], [6, 7]) := by decide +kernel
theorem bf269_679 : am_fetch (am_mth 269) 679 = some (.iload 4, 2, [], [6, 7]) := by decide +kernel
theorem bf269_681 : am_fetch (am_mth 269) 681 = some (.iconst 1, 1, [], [6, 7]) := by decide +kernel
theorem bf269_682 : am_fetch (am_mth 269) 682 = some (.iadd, 1, [], [6, 7]) := by decide +kernel
theorem bf269_683 : am_fetch (am_mth 269) 683 = some (.iaload, 1, [], [6, 7]) := by decide +kernel
theorem bf269_684 : am_fetch (am_mth 269) 684 = some (.aload_n 0, 1, [], [6, 7]) := by decide +kernel
theorem bf269_685 : am_fetch (am_mth 269) 685 = some (.iload 4, 2, [], [6, 7]) := by decide +kernel
theorem bf269_687 : am_fetch (am_mth 269) 687 = some (.iconst 2, 1, [], [6, 7]) := by decide +kernel
theorem bf269_688 : am_fetch (am_mth 269) 688 = some (.iadd, 1, [], [6, 7]) := by decide +kernel
theorem bf269_689 : am_fetch (am_mth 269) 689 = some (.iaload, 1, [], [6, 7]) := by decide +kernel
theorem bf269_690 : am_fetch (am_mth 269) 690 = some (.ifCond .eq 7, 3, [], [6, 7]) := by decide +kernel
theorem bf269_693 : am_fetch (am_mth 269) 693 = some (.iconst 1, 1, [], [6, 7]) := by decide +kernel
theorem bf269_694 : am_fetch (am_mth 269) 694 = some (.goto 4, 3, [], [6, 7]) := by decide +kernel
theorem bf269_697 : am_fetch (am_mth 269) 697 = some (.iconst 0, 1, [], [6, 7]) := by decide +kernel
theorem bf269_698 : am_fetch (am_mth 269) 698 = some (.aload_n 0, 1, [], [6, 7]) := by decide +kernel
theorem bf269_699 : am_fetch (am_mth 269) 699 = some (.iload 4, 2, [], [6, 7]) := by decide +kernel
theorem bf269_701 : am_fetch (am_mth 269) 701 = some (.iconst 3, 1, [], [6, 7]) := by decide +kernel
theorem bf269_702 : am_fetch (am_mth 269) 702 = some (.iadd, 1, [], [6, 7]) := by decide +kernel
theorem bf269_703 : am_fetch (am_mth 269) 703 = some (.iaload, 1, [], [6, 7]) := by decide +kernel
theorem bf269_704 : am_fetch (am_mth 269) 704 = some (.ifCond .eq 7, 3, [], [6, 7]) := by decide +kernel
theorem bf269_707 : am_fetch (am_mth 269) 707 = some (.iconst 1, 1, [], [6, 7]) := by decide +kernel
theorem bf269_708 : am_fetch (am_mth 269) 708 = some (.goto 4, 3, [], [6, 7]) := by decide +kernel
theorem bf269_711 : am_fetch (am_mth 269) 711 = some (.iconst 0, 1, [], [6, 7]) := by decide +kernel
theorem bf269_712 : am_fetch (am_mth 269) 712 = some (.invokevirtual 152, 3, [0, 261, 3, 11, 1464, 1465, 1466, 48], [6, 7]) := by decide +kernel
theorem bf269_715 : am_fetch (am_mth 269) 715 = some (.istore 6, 2, [], [6, 7]) := by decide +kernel
theorem bf269_717 : am_fetch (am_mth 269) 717 = some (.aload_n 2, 1, [], [7]) := by decide +kernel
theorem bf269_718 : am_fetch (am_mth 269) 718 = some (.invokevirtual 130, 3, [0, 266, 0, 11, 1234, 1235, 1236, 48], [7]) := by decide +kernel
theorem bf269_721 : am_fetch (am_mth 269) 721 = some (.iload 5, 2, [], [7]) := by decide +kernel
theorem bf269_723 : am_fetch (am_mth 269) 723 = some (.if_icmp .eq 5, 3, [], [7]) := by decide +kernel
theorem bf269_726 : am_fetch (am_mth 269) 726 = some (.iconst 0, 1, [], [0, 1, 2, 3, 4, 5, 6, 7]) := by decide +kernel
theorem bf269_727 : am_fetch (am_mth 269) 727 = some (.ireturn, 1, [1], [0, 1, 2, 3, 4, 5, 6, 7]) := by decide +kernel
theorem bf269_728 : am_fetch (am_mth 269) 728 = some (.iload 5, 2, [], [7]) := by decide +kernel
theorem bf269_730 : am_fetch (am_mth 269) 730 = some (.ifCond .ne 16, 3, [], [5, 7]) := by decide +kernel
theorem bf269_733 : am_fetch (am_mth 269) 733 = some (.aload_n 3, 1, [], [5, 7]) := by decide +kernel
theorem bf269_734 : am_fetch (am_mth 269) 734 = some (.getfield 13, 3, [1, 9, 0, 485], [5, 7]) := by decide +kernel
theorem bf269_737 : am_fetch (am_mth 269) 737 = some (.iload 6, 2, [], [5, 7]) := by decide +kernel
theorem bf269_739 : am_fetch (am_mth 269) 739 = some (.i2l, 1, [], [5, 6, 7]) := by decide +kernel
theorem bf269_740 : am_fetch (am_mth 269) 740 = some (.lcmp, 1, [], [5, 6, 7]) := by decide +kernel
theorem bf269_741 : am_fetch (am_mth 269) 741 = some (.ifCond .eq 5, 3, [], [5, 6, 7]) := by decide +kernel
theorem bf269_744 : am_fetch (am_mth 269) 744 = some (.iconst 0, 1, [], [0, 1, 2, 3, 4, 5, 6, 7]) := by decide +kernel
theorem bf269_745 : am_fetch (am_mth 269) 745 = some (.ireturn, 1, [1], [0, 1, 2, 3, 4, 5, 6, 7]) := by decide +kernel
theorem bf269_746 : am_fetch (am_mth 269) 746 = some (.goto 1445, 3, [], [5, 6, 7]) := by decide +kernel
theorem bf269_749 : am_fetch (am_mth 269) 749 = some (.aload_n 1, 1, [], [5, 6, 7]) := by decide +kernel
theorem bf269_750 : am_fetch (am_mth 269) 750 = some (.aload_n 0, 1, [], [5, 6, 7]) := by decide +kernel
theorem bf269_751 : am_fetch (am_mth 269) 751 = some (.iload 4, 2, [], [5, 6, 7]) := by decide +kernel
theorem bf269_753 : am_fetch (am_mth 269) 753 = some (.iconst 1, 1, [], [5, 6, 7]) := by decide +kernel
theorem bf269_754 : am_fetch (am_mth 269) 754 = some (.iadd, 1, [], [5, 6, 7]) := by decide +kernel
theorem bf269_755 : am_fetch (am_mth 269) 755 = some (.iaload, 1, [], [5, 6, 7]) := by decide +kernel
theorem bf269_756 : am_fetch (am_mth 269) 756 = some (.aload_n 0, 1, [], [5, 6, 7]) := by decide +kernel
theorem bf269_757 : am_fetch (am_mth 269) 757 = some (.iload 4, 2, [], [5, 6, 7]) := by decide +kernel
theorem bf269_759 : am_fetch (am_mth 269) 759 = some (.iconst 2, 1, [], [5, 6, 7]) := by decide +kernel
theorem bf269_760 : am_fetch (am_mth 269) 760 = some (.iadd, 1, [], [5, 6, 7]) := by decide +kernel
theorem bf269_761 : am_fetch (am_mth 269) 761 = some (.iaload, 1, [], [5, 6, 7]) := by decide +kernel
theorem bf269_762 : am_fetch (am_mth 269) 762 = some (.ifCond .eq 7, 3, [], [5, 6, 7]) := by decide +kernel
theorem bf269_765 : am_fetch (am_mth 269) 765 = some (.iconst 1, 1, [], [5, 6, 7]) := by decide +kernel
theorem bf269_766 : am_fetch (am_mth 269) 766 = some (.goto 4, 3, [], [5, 6, 7]) := by decide +kernel
theorem bf269_769 : am_fetch (am_mth 269) 769 = some (.iconst 0, 1, [], [5, 6, 7]) := by decide +kernel
theorem bf269_770 : am_fetch (am_mth 269) 770 = some (.aload_n 3, 1, [], [5, 6, 7]) := by decide +kernel
theorem bf269_771 : am_fetch (am_mth 269) 771 = some (.invokestatic 153, 3, [0, 255, 4, 736, 737, 45], [5, 6, 7]) := by decide +kernel
theorem bf269_774 : am_fetch (am_mth 269) 774 = some (.istore 5, 2, [], [5, 6, 7]) := by decide +kernel
theorem bf269_776 : am_fetch (am_mth 269) 776 = some (.aload_n 2, 1, [], [6, 7]) := by decide +kernel
theorem bf269_777 : am_fetch (am_mth 269) 777 = some (.aload_n 0, 1, [], [6, 7]) := by decide +kernel
theorem bf269_778 : am_fetch (am_mth 269) 778 = some (.iload 4, 2, [], [6, 7]) := by decide +kernel
theorem bf269_780 : am_fetch (am_mth 269) 780 = some (.iconst 1, 1, [], [6, 7]) := by decide +kernel
theorem bf269_781 : am_fetch (am_mth 269) 781 = some (.iadd, 1, [], [6, 7]) := by decide +kernel
theorem bf269_782 : am_fetch (am_mth 269) 782 = some (.iaload, 1, [], [6, 7]) := by decide +kernel
theorem bf269_783 : am_fetch (am_mth 269) 783 = some (.aload_n 0, 1, [], [6, 7]) := by decide +kernel
theorem bf269_784 : am_fetch (am_mth 269) 784 = some (.iload 4, 2, [], [6, 7]) := by decide +kernel
theorem bf269_786 : am_fetch (am_mth 269) 786 = some (.iconst 2, 1, [], [6, 7]) := by decide +kernel
theorem bf269_787 : am_fetch (am_mth 269) 787 = some (.iadd, 1, [], [6, 7]) := by decide +kernel
theorem bf269_788 : am_fetch (am_mth 269) 788 = some (.iaload, 1, [], [6, 7]) := by decide +kernel
theorem bf269_789 : am_fetch (am_mth 269) 789 = some (.ifCond .eq 7, 3, [], [6, 7]) := by decide +kernel
theorem bf269_792 : am_fetch (am_mth 269) 792 = some (.iconst 1, 1, [], [6, 7]) := by decide +kernel
theorem bf269_793 : am_fetch (am_mth 269) 793 = some (.goto 4, 3, [], [6, 7]) := by decide +kernel
theorem bf269_796 : am_fetch (am_mth 269) 796 = some (.iconst 0, 1, [], [6, 7]) := by decide +kernel
theorem bf269_797 : am_fetch (am_mth 269) 797 = some (.invokevirtual 155, 3, [0, 262, 2, 11, 1471, 1472, 1473, 48], [6, 7]) := by decide +kernel
theorem bf269_800 : am_fetch (am_mth 269) 800 = some (.istore 6, 2, [], [6, 7]) := by decide +kernel
theorem bf269_802 : am_fetch (am_mth 269) 802 = some (.aload_n 2, 1, [], [7]) := by decide +kernel
theorem bf269_803 : am_fetch (am_mth 269) 803 = some (.invokevirtual 130, 3, [0, 266, 0, 11, 1234, 1235, 1236, 48], [7]) := by decide +kernel
theorem bf269_806 : am_fetch (am_mth 269) 806 = some (.iload 5, 2, [], [7]) := by decide +kernel
theorem bf269_808 : am_fetch (am_mth 269) 808 = some (.if_icmp .eq 5, 3, [], [7]) := by decide +kernel
theorem bf269_811 : am_fetch (am_mth 269) 811 = some (.iconst 0, 1, [], [0, 1, 2, 3, 4, 5, 6, 7]) := by decide +kernel
theorem bf269_812 : am_fetch (am_mth 269) 812 = some (.ireturn, 1, [1], [0, 1, 2, 3, 4, 5, 6, 7]) := by decide +kernel
theorem bf269_813 : am_fetch (am_mth 269) 813 = some (.iload 5, 2, [], [7]) := by decide +kernel
theorem bf269_815 : am_fetch (am_mth 269) 815 = some (.ifCond .ne 16, 3, [], [5, 7]) := by decide +kernel
theorem bf269_818 : am_fetch (am_mth 269) 818 = some (.aload_n 3, 1, [], [5, 7]) := by decide +kernel
theorem bf269_819 : am_fetch (am_mth 269) 819 = some (.getfield 13, 3, [1, 9, 0, 485], [5, 7]) := by decide +kernel
theorem bf269_822 : am_fetch (am_mth 269) 822 = some (.iload 6, 2, [], [5, 7]) := by decide +kernel
theorem bf269_824 : am_fetch (am_mth 269) 824 = some (.i2l, 1, [], [5, 6, 7]) := by decide +kernel
theorem bf269_825 : am_fetch (am_mth 269) 825 = some (.lcmp, 1, [], [5, 6, 7]) := by decide +kernel
theorem bf269_826 : am_fetch (am_mth 269) 826 = some (.ifCond .eq 5, 3, [], [5, 6, 7]) := by decide +kernel
theorem bf269_829 : am_fetch (am_mth 269) 829 = some (.iconst 0, 1, [], [0, 1, 2, 3, 4, 5, 6, 7]) := by decide +kernel
theorem bf269_830 : am_fetch (am_mth 269) 830 = some (.ireturn, 1, [1], [0, 1, 2, 3, 4, 5, 6, 7]) := by decide +kernel
theorem bf269_831 : am_fetch (am_mth 269) 831 = some (.goto 1360, 3, [], [5, 6, 7]) := by decide +kernel
theorem bf269_834 : am_fetch (am_mth 269) 834 = some (.aload_n 1, 1, [], [5, 6, 7]) := by decide +kernel
theorem bf269_835 : am_fetch (am_mth 269) 835 = some (.aload_n 0, 1, [], [5, 6, 7]) := by decide +kernel
theorem bf269_836 : am_fetch (am_mth 269) 836 = some (.iload 4, 2, [], [5, 6, 7]) := by decide +kernel
theorem bf269_838 : am_fetch (am_mth 269) 838 = some (.iconst 1, 1, [], [5, 6, 7]) := by decide +kernel
theorem bf269_839 : am_fetch (am_mth 269) 839 = some (.iadd, 1, [], [5, 6, 7]) := by decide +kernel
theorem bf269_840 : am_fetch (am_mth 269) 840 = some (.iaload, 1, [], [5, 6, 7]) := by decide +kernel
theorem bf269_841 : am_fetch (am_mth 269) 841 = some (.aload_n 0, 1, [], [5, 6, 7]) := by decide +kernel
theorem bf269_842 : am_fetch (am_mth 269) 842 = some (.iload 4, 2, [], [5, 6, 7]) := by decide +kernel
theorem bf269_844 : am_fetch (am_mth 269) 844 = some (.iconst 2, 1, [], [5, 6, 7]) := by decide +kernel
theorem bf269_845 : am_fetch (am_mth 269) 845 = some (.iadd, 1, [], [5, 6, 7]) := by decide +kernel
theorem bf269_846 : am_fetch (am_mth 269) 846 = some (.iaload, 1, [], [5, 6, 7]) := by decide +kernel
theorem bf269_847 : am_fetch (am_mth 269) 847 = some (.ifCond .eq 7, 3, [], [5, 6, 7]) := by decide +kernel
theorem bf269_850 : am_fetch (am_mth 269) 850 = some (.iconst 1, 1, [], [5, 6, 7]) := by decide +kernel
theorem bf269_851 : am_fetch (am_mth 269) 851 = some (.goto 4, 3, [], [5, 6, 7]) := by decide +kernel
theorem bf269_854 : am_fetch (am_mth 269) 854 = some (.iconst 0, 1, [], [5, 6, 7]) := by decide +kernel
theorem bf269_855 : am_fetch (am_mth 269) 855 = some (.aload_n 3, 1, [], [5, 6, 7]) := by decide +kernel
theorem bf269_856 : am_fetch (am_mth 269) 856 = some (.invokestatic 156, 3, [0, 256, 4, 757, 758, 45], [5, 6, 7]) := by decide +kernel
theorem bf269_859 : am_fetch (am_mth 269) 859 = some (.istore 5, 2, [], [5, 6, 7]) := by decide +kernel
theorem bf269_861 : am_fetch (am_mth 269) 861 = some (.aload_n 2, 1, [], [6, 7]) := by decide +kernel
theorem bf269_862 : am_fetch (am_mth 269) 862 = some (.aload_n 0, 1, [], [6, 7]) := by decide +kernel
theorem bf269_863 : am_fetch (am_mth 269) 863 = some (.iload 4, 2, [], [6, 7]) := by decide +kernel
theorem bf269_865 : am_fetch (am_mth 269) 865 = some (.iconst 1, 1, [], [6, 7]) := by decide +kernel
theorem bf269_866 : am_fetch (am_mth 269) 866 = some (.iadd, 1, [], [6, 7]) := by decide +kernel
theorem bf269_867 : am_fetch (am_mth 269) 867 = some (.iaload, 1, [], [6, 7]) := by decide +kernel
theorem bf269_868 : am_fetch (am_mth 269) 868 = some (.aload_n 0, 1, [], [6, 7]) := by decide +kernel
theorem bf269_869 : am_fetch (am_mth 269) 869 = some (.iload 4, 2, [], [6, 7]) := by decide +kernel
theorem bf269_871 : am_fetch (am_mth 269) 871 = some (.iconst 2, 1, [], [6, 7]) := by decide +kernel
theorem bf269_872 : am_fetch (am_mth 269) 872 = some (.iadd, 1, [], [6, 7]) := by decide +kernel
theorem bf269_873 : am_fetch (am_mth 269) 873 = some (.iaload, 1, [], [6, 7]) := by decide +kernel
theorem bf269_874 : am_fetch (am_mth 269) 874 = some (.ifCond .eq 7, 3, [], [6, 7]) := by decide +kernel
theorem bf269_877 : am_fetch (am_mth 269) 877 = some (.iconst 1, 1, [], [6, 7]) := by decide +kernel
theorem bf269_878 : am_fetch (am_mth 269) 878 = some (.goto 4, 3, [], [6, 7]) := by decide +kernel
theorem bf269_881 : am_fetch (am_mth 269) 881 = some (.iconst 0, 1, [], [6, 7]) := by decide +kernel
theorem bf269_882 : am_fetch (am_mth 269) 882 = some (.invokevirtual 158, 3, [0, 263, 2, 11, 1482, 1483, 1484, 48], [6, 7]) := by decide +kernel
theorem bf269_885 : am_fetch (am_mth 269) 885 = some (.istore 6, 2, [], [6, 7]) := by decide +kernel
theorem bf269_887 : am_fetch (am_mth 269) 887 = some (.aload_n 2, 1, [], [7]) := by decide +kernel
theorem bf269_888 : am_fetch (am_mth 269) 888 = some (.invokevirtual 130, 3, [0, 266, 0, 11, 1234, 1235, 1236, 48], [7]) := by decide +kernel
theorem bf269_891 : am_fetch (am_mth 269) 891 = some (.iload 5, 2, [], [7]) := by decide +kernel
theorem bf269_893 : am_fetch (am_mth 269) 893 = some (.if_icmp .eq 5, 3, [], [7]) := by decide +kernel
theorem bf269_896 : am_fetch (am_mth 269) 896 = some (.iconst 0, 1, [], [0, 1, 2, 3, 4, 5, 6, 7]) := by decide +kernel
theorem bf269_897 : am_fetch (am_mth 269) 897 = some (.ireturn, 1, [1], [0, 1, 2, 3, 4, 5, 6, 7]) := by decide +kernel
theorem bf269_898 : am_fetch (am_mth 269) 898 = some (.iload 5, 2, [], [7]) := by decide +kernel
theorem bf269_900 : am_fetch (am_mth 269) 900 = some (.ifCond .ne 16, 3, [], [5, 7]) := by decide +kernel
theorem bf269_903 : am_fetch (am_mth 269) 903 = some (.aload_n 3, 1, [], [5, 7]) := by decide +kernel
theorem bf269_904 : am_fetch (am_mth 269) 904 = some (.getfield 13, 3, [1, 9, 0, 485], [5, 7]) := by decide +kernel
theorem bf269_907 : am_fetch (am_mth 269) 907 = some (.iload 6, 2, [], [5, 7]) := by decide +kernel
theorem bf269_909 : am_fetch (am_mth 269) 909 = some (.i2l, 1, [], [5, 6, 7]) := by decide +kernel
theorem bf269_910 : am_fetch (am_mth 269) 910 = some (.lcmp, 1, [], [5, 6, 7]) := by decide +kernel
theorem bf269_911 : am_fetch (am_mth 269) 911 = some (.ifCond .eq 5, 3, [], [5, 6, 7]) := by decide +kernel
theorem bf269_914 : am_fetch (am_mth 269) 914 = some (.iconst 0, 1, [], [0, 1, 2, 3, 4, 5, 6, 7]) := by decide +kernel
theorem bf269_915 : am_fetch (am_mth 269) 915 = some (.ireturn, 1, [1], [0, 1, 2, 3, 4, 5, 6, 7]) := by decide +kernel
theorem bf269_916 : am_fetch (am_mth 269) 916 = some (.goto 1275, 3, [], [5, 6, 7]) := by decide +kernel
theorem bf269_919 : am_fetch (am_mth 269) 919 = some (.aload_n 1, 1, [], [5, 6, 7]) := by decide +kernel
theorem bf269_920 : am_fetch (am_mth 269) 920 = some (.aload_n 0, 1, [], [5, 6, 7]) := by decide +kernel
theorem bf269_921 : am_fetch (am_mth 269) 921 = some (.iload 4, 2, [], [5, 6, 7]) := by decide +kernel
theorem bf269_923 : am_fetch (am_mth 269) 923 = some (.iconst 1, 1, [], [5, 6, 7]) := by decide +kernel
theorem bf269_924 : am_fetch (am_mth 269) 924 = some (.iadd, 1, [], [5, 6, 7]) := by decide +kernel
theorem bf269_925 : am_fetch (am_mth 269) 925 = some (.iaload, 1, [], [5, 6, 7]) := by decide +kernel
theorem bf269_926 : am_fetch (am_mth 269) 926 = some (.aload_n 0, 1, [], [5, 6, 7]) := by decide +kernel
theorem bf269_927 : am_fetch (am_mth 269) 927 = some (.iload 4, 2, [], [5, 6, 7]) := by decide +kernel
theorem bf269_929 : am_fetch (am_mth 269) 929 = some (.iconst 2, 1, [], [5, 6, 7]) := by decide +kernel
theorem bf269_930 : am_fetch (am_mth 269) 930 = some (.iadd, 1, [], [5, 6, 7]) := by decide +kernel
theorem bf269_931 : am_fetch (am_mth 269) 931 = some (.iaload, 1, [], [5, 6, 7]) := by decide +kernel
theorem bf269_932 : am_fetch (am_mth 269) 932 = some (.aload_n 3, 1, [], [5, 6, 7]) := by decide +kernel
theorem bf269_933 : am_fetch (am_mth 269) 933 = some (.invokestatic 159, 3, [0, 187, 4, 770, 771, 45], [5, 6, 7]) := by decide +kernel
theorem bf269_936 : am_fetch (am_mth 269) 936 = some (.istore 5, 2, [], [5, 6, 7]) := by decide +kernel
theorem bf269_938 : am_fetch (am_mth 269) 938 = some (.aload_n 2, 1, [], [6, 7]) := by decide +kernel
theorem bf269_939 : am_fetch (am_mth 269) 939 = some (.aload_n 0, 1, [], [6, 7]) := by decide +kernel
theorem bf269_940 : am_fetch (am_mth 269) 940 = some (.iload 4, 2, [], [6, 7]) := by decide +kernel
theorem bf269_942 : am_fetch (am_mth 269) 942 = some (.iconst 1, 1, [], [6, 7]) := by decide +kernel
theorem bf269_943 : am_fetch (am_mth 269) 943 = some (.iadd, 1, [], [6, 7]) := by decide +kernel
theorem bf269_944 : am_fetch (am_mth 269) 944 = some (.iaload, 1, [], [6, 7]) := by decide +kernel
theorem bf269_945 : am_fetch (am_mth 269) 945 = some (.aload_n 0, 1, [], [6, 7]) := by decide +kernel
theorem bf269_946 : am_fetch (am_mth 269) 946 = some (.iload 4, 2, [], [6, 7]) := by decide +kernel
theorem bf269_948 : am_fetch (am_mth 269) 948 = some (.iconst 2, 1, [], [6, 7]) := by decide +kernel
theorem bf269_949 : am_fetch (am_mth 269) 949 = some (.iadd, 1, [], [6, 7]) := by decide +kernel
theorem bf269_950 : am_fetch (am_mth 269) 950 = some (.iaload, 1, [], [6, 7]) := by decide +kernel
theorem bf269_951 : am_fetch (am_mth 269) 951 = some (.invokevirtual 162, 3, [0, 178, 2, 11, 1533, 1534, 1535, 48], [6, 7]) := by decide +kernel
theorem bf269_954 : am_fetch (am_mth 269) 954 = some (.istore 6, 2, [], [6, 7]) := by decide +kernel
theorem bf269_956 : am_fetch (am_mth 269) 956 = some (.aload_n 2, 1, [], [7]) := by decide +kernel
theorem bf269_957 : am_fetch (am_mth 269) 957 = some (.invokevirtual 130, 3, [0, 266, 0, 11, 1234, 1235, 1236, 48], [7]) := by decide +kernel
theorem bf269_960 : am_fetch (am_mth 269) 960 = some (.iload 5, 2, [], [7]) := by decide +kernel
theorem bf269_962 : am_fetch (am_mth 269) 962 = some (.if_icmp .eq 5, 3, [], [7]) := by decide +kernel
theorem bf269_965 : am_fetch (am_mth 269) 965 = some (.iconst 0, 1, [], [0, 1, 2, 3, 4, 5, 6, 7]) := by decide +kernel
theorem bf269_966 : am_fetch (am_mth 269) 966 = some (.ireturn, 1, [1], [0, 1, 2, 3, 4, 5, 6, 7]) := by decide +kernel
theorem bf269_967 : am_fetch (am_mth 269) 967 = some (.iload 5, 2, [], [7]) := by decide +kernel
theorem bf269_969 : am_fetch (am_mth 269) 969 = some (.ifCond .ne 16, 3, [], [5, 7]) := by decide +kernel
theorem bf269_972 : am_fetch (am_mth 269) 972 = some (.aload_n 3, 1, [], [5, 7]) := by decide +kernel
theorem bf269_973 : am_fetch (am_mth 269) 973 = some (.getfield 13, 3, [1, 9, 0, 485], [5, 7]) := by decide +kernel
theorem bf269_976 : am_fetch (am_mth 269) 976 = some (.iload 6, 2, [], [5, 7]) := by decide +kernel
theorem bf269_978 : am_fetch (am_mth 269) 978 = some (.i2l, 1, [], [5, 6, 7]) := by decide +kernel
theorem bf269_979 : am_fetch (am_mth 269) 979 = some (.lcmp, 1, [], [5, 6, 7]) := by decide +kernel
theorem bf269_980 : am_fetch (am_mth 269) 980 = some (.ifCond .eq 5, 3, [], [5, 6, 7]) := by decide +kernel
theorem bf269_983 : am_fetch (am_mth 269) 983 = some (.iconst 0, 1, [], [0, 1, 2, 3, 4, 5, 6, 7]) := by decide +kernel
theorem bf269_984 : am_fetch (am_mth 269) 984 = some (.ireturn, 1, [1], [0, 1, 2, 3, 4, 5, 6, 7]) := by decide +kernel
theorem bf269_985 : am_fetch (am_mth 269) 985 = some (.goto 1206, 3, [], [5, 6, 7]) := by decide +kernel
theorem bf269_988 : am_fetch (am_mth 269) 988 = some (.aload_n 1, 1, [], [5, 6, 7]) := by decide +kernel
theorem bf269_989 : am_fetch (am_mth 269) 989 = some (.aload_n 0, 1, [], [5, 6, 7]) := by decide +kernel
theorem bf269_990 : am_fetch (am_mth 269) 990 = some (.iload 4, 2, [], [5, 6, 7]) := by decide +kernel
theorem bf269_992 : am_fetch (am_mth 269) 992 = some (.iconst 1, 1, [], [5, 6, 7]) := by decide +kernel
theorem bf269_993 : am_fetch (am_mth 269) 993 = some (.iadd, 1, [], [5, 6, 7]) := by decide +kernel
theorem bf269_994 : am_fetch (am_mth 269) 994 = some (.iaload, 1, [], [5, 6, 7]) := by decide +kernel
theorem bf269_995 : am_fetch (am_mth 269) 995 = some (.aload_n 3, 1, [], [5, 6, 7]) := by decide +kernel
theorem bf269_996 : am_fetch (am_mth 269) 996 = some (.invokestatic 163, 3, [0, 188, 3, 778, 779, 45], [5, 6, 7]) := by decide +kernel
theorem bf269_999 : am_fetch (am_mth 269) 999 = some (.istore 5, 2, [], [5, 6, 7]) := by decide +kernel
theorem bf269_1001 : am_fetch (am_mth 269) 1001 = some (.aload_n 2, 1, [], [6, 7]) := by decide +kernel
theorem bf269_1002 : am_fetch (am_mth 269) 1002 = some (.aload_n 0, 1, [], [6, 7]) := by decide +kernel
theorem bf269_1003 : am_fetch (am_mth 269) 1003 = some (.iload 4, 2, [], [6, 7]) := by decide +kernel
theorem bf269_1005 : am_fetch (am_mth 269) 1005 = some (.iconst 1, 1, [], [6, 7]) := by decide +kernel
theorem bf269_1006 : am_fetch (am_mth 269) 1006 = some (.iadd, 1, [], [6, 7]) := by decide +kernel
theorem bf269_1007 : am_fetch (am_mth 269) 1007 = some (.iaload, 1, [], [6, 7]) := by decide +kernel
theorem bf269_1008 : am_fetch (am_mth 269) 1008 = some (.invokevirtual 165, 3, [0, 179, 1, 11, 1537, 1538, 1539, 48], [6, 7]) := by decide +kernel
theorem bf269_1011 : am_fetch (am_mth 269) 1011 = some (.istore 6, 2, [], [6, 7]) := by decide +kernel
theorem bf269_1013 : am_fetch (am_mth 269) 1013 = some (.aload_n 2, 1, [], [7]) := by decide +kernel
theorem bf269_1014 : am_fetch (am_mth 269) 1014 = some (.invokevirtual 130, 3, [0, 266, 0, 11, 1234, 1235, 1236, 48], [7]) := by decide +kernel
theorem bf269_1017 : am_fetch (am_mth 269) 1017 = some (.iload 5, 2, [], [7]) := by decide +kernel
theorem bf269_1019 : am_fetch (am_mth 269) 1019 = some (.if_icmp .eq 5, 3, [], [7]) := by decide +kernel
theorem bf269_1022 : am_fetch (am_mth 269) 1022 = some (.iconst 0, 1, [], [0, 1, 2, 3, 4, 5, 6, 7]) := by decide +kernel
theorem bf269_1023 : am_fetch (am_mth 269) 1023 = some (.ireturn, 1, [1], [0, 1, 2, 3, 4, 5, 6, 7]) := by decide +kernel
theorem bf269_1024 : am_fetch (am_mth 269) 1024 = some (.iload 5, 2, [], [7]) := by decide +kernel
theorem bf269_1026 : am_fetch (am_mth 269) 1026 = some (.ifCond .ne 16, 3, [], [5, 7]) := by decide +kernel
theorem bf269_1029 : am_fetch (am_mth 269) 1029 = some (.aload_n 3, 1, [], [5, 7]) := by decide +kernel
theorem bf269_1030 : am_fetch (am_mth 269) 1030 = some (.getfield 13, 3, [1, 9, 0, 485], [5, 7]) := by decide +kernel
theorem bf269_1033 : am_fetch (am_mth 269) 1033 = some (.iload 6, 2, [], [5, 7]) := by decide +kernel
theorem bf269_1035 : am_fetch (am_mth 269) 1035 = some (.i2l, 1, [], [5, 6, 7]) := by decide +kernel
theorem bf269_1036 : am_fetch (am_mth 269) 1036 = some (.lcmp, 1, [], [5, 6, 7]) := by decide +kernel
theorem bf269_1037 : am_fetch (am_mth 269) 1037 = some (.ifCond .eq 5, 3, [], [5, 6, 7]) := by decide +kernel
theorem bf269_1040 : am_fetch (am_mth 269) 1040 = some (.iconst 0, 1, [], [0, 1, 2, 3, 4, 5, 6, 7]) := by decide +kernel
theorem bf269_1041 : am_fetch (am_mth 269) 1041 = some (.ireturn, 1, [1], [0, 1, 2, 3, 4, 5, 6, 7]) := by decide +kernel
theorem bf269_1042 : am_fetch (am_mth 269) 1042 = some (.goto 1149, 3, [], [5, 6, 7]) := by decide +kernel
theorem bf269_1045 : am_fetch (am_mth 269) 1045 = some (.aload_n 1, 1, [], [5, 6, 7]) := by decide +kernel
theorem bf269_1046 : am_fetch (am_mth 269) 1046 = some (.aload_n 0, 1, [], [5, 6, 7]) := by decide +kernel
theorem bf269_1047 : am_fetch (am_mth 269) 1047 = some (.iload 4, 2, [], [5, 6, 7]) := by decide +kernel
theorem bf269_1049 : am_fetch (am_mth 269) 1049 = some (.iconst 1, 1, [], [5, 6, 7]) := by decide +kernel
theorem bf269_1050 : am_fetch (am_mth 269) 1050 = some (.iadd, 1, [], [5, 6, 7]) := by decide +kernel
theorem bf269_1051 : am_fetch (am_mth 269) 1051 = some (.iaload, 1, [], [5, 6, 7]) := by decide +kernel
theorem bf269_1052 : am_fetch (am_mth 269) 1052 = some (.aload_n 0, 1, [], [5, 6, 7]) := by decide +kernel
theorem bf269_1053 : am_fetch (am_mth 269) 1053 = some (.iload 4, 2, [], [5, 6, 7]) := by decide +kernel
theorem bf269_1055 : am_fetch (am_mth 269) 1055 = some (.iconst 2, 1, [], [5, 6, 7]) := by decide +kernel
theorem bf269_1056 : am_fetch (am_mth 269) 1056 = some (.iadd, 1, [], [5, 6, 7]) := by decide +kernel
theorem bf269_1057 : am_fetch (am_mth 269) 1057 = some (.iaload, 1, [], [5, 6, 7]) := by decide +kernel
theorem bf269_1058 : am_fetch (am_mth 269) 1058 = some (.aload_n 3, 1, [], [5, 6, 7]) := by decide +kernel
theorem bf269_1059 : am_fetch (am_mth 269) 1059 = some (.invokestatic 166, 3, [0, 218, 4, 786, 787, 45], [5, 6, 7]) := by decide +kernel
theorem bf269_1062 : am_fetch (am_mth 269) 1062 = some (.istore 5, 2, [], [5, 6, 7]) := by decide +kernel
theorem bf269_1064 : am_fetch (am_mth 269) 1064 = some (.aload_n 2, 1, [], [6, 7]) := by decide +kernel
theorem bf269_1065 : am_fetch (am_mth 269) 1065 = some (.aload_n 0, 1, [], [6, 7]) := by decide +kernel
theorem bf269_1066 : am_fetch (am_mth 269) 1066 = some (.iload 4, 2, [], [6, 7]) := by decide +kernel
theorem bf269_1068 : am_fetch (am_mth 269) 1068 = some (.iconst 1, 1, [], [6, 7]) := by decide +kernel
theorem bf269_1069 : am_fetch (am_mth 269) 1069 = some (.iadd, 1, [], [6, 7]) := by decide +kernel
theorem bf269_1070 : am_fetch (am_mth 269) 1070 = some (.iaload, 1, [], [6, 7]) := by decide +kernel
theorem bf269_1071 : am_fetch (am_mth 269) 1071 = some (.aload_n 0, 1, [], [6, 7]) := by decide +kernel
theorem bf269_1072 : am_fetch (am_mth 269) 1072 = some (.iload 4, 2, [], [6, 7]) := by decide +kernel
theorem bf269_1074 : am_fetch (am_mth 269) 1074 = some (.iconst 2, 1, [], [6, 7]) := by decide +kernel
theorem bf269_1075 : am_fetch (am_mth 269) 1075 = some (.iadd, 1, [], [6, 7]) := by decide +kernel
theorem bf269_1076 : am_fetch (am_mth 269) 1076 = some (.iaload, 1, [], [6, 7]) := by decide +kernel
theorem bf269_1077 : am_fetch (am_mth 269) 1077 = some (.invokevirtual 168, 3, [0, 180, 2, 11, 1541, 1542, 1543, 48], [6, 7]) := by decide +kernel
theorem bf269_1080 : am_fetch (am_mth 269) 1080 = some (.istore 6, 2, [], [6, 7]) := by decide +kernel
theorem bf269_1082 : am_fetch (am_mth 269) 1082 = some (.aload_n 2, 1, [], [7]) := by decide +kernel
theorem bf269_1083 : am_fetch (am_mth 269) 1083 = some (.invokevirtual 130, 3, [0, 266, 0, 11, 1234, 1235, 1236, 48], [7]) := by decide +kernel
theorem bf269_1086 : am_fetch (am_mth 269) 1086 = some (.iload 5, 2, [], [7]) := by decide +kernel
theorem bf269_1088 : am_fetch (am_mth 269) 1088 = some (.if_icmp .eq 5, 3, [], [7]) := by decide +kernel
theorem bf269_1091 : am_fetch (am_mth 269) 1091 = some (.iconst 0, 1, [], [0, 1, 2, 3, 4, 5, 6, 7]) := by decide +kernel
theorem bf269_1092 : am_fetch (am_mth 269) 1092 = some (.ireturn, 1, [1], [0, 1, 2, 3, 4, 5, 6, 7]) := by decide +kernel
theorem bf269_1093 : am_fetch (am_mth 269) 1093 = some (.iload 5, 2, [], [7]) := by decide +kernel
theorem bf269_1095 : am_fetch (am_mth 269) 1095 = some (.ifCond .ne 16, 3, [], [5, 7]) := by decide +kernel
theorem bf269_1098 : am_fetch (am_mth 269) 1098 = some (.aload_n 3, 1, [], [5, 7]) := by decide +kernel
theorem bf269_1099 : am_fetch (am_mth 269) 1099 = some (.getfield 13, 3, [1, 9, 0, 485], [5, 7]) := by decide +kernel
theorem bf269_1102 : am_fetch (am_mth 269) 1102 = some (.iload 6, 2, [], [5, 7]) := by decide +kernel
theorem bf269_1104 : am_fetch (am_mth 269) 1104 = some (.i2l, 1, [], [5, 6, 7]) := by decide +kernel
theorem bf269_1105 : am_fetch (am_mth 269) 1105 = some (.lcmp, 1, [], [5, 6, 7]) := by decide +kernel
theorem bf269_1106 : am_fetch (am_mth 269) 1106 = some (.ifCond .eq 5, 3, [], [5, 6, 7]) := by decide +kernel
theorem bf269_1109 : am_fetch (am_mth 269) 1109 = some (.iconst 0, 1, [], [0, 1, 2, 3, 4, 5, 6, 7]) := by decide +kernel
theorem bf269_1110 : am_fetch (am_mth 269) 1110 = some (.ireturn, 1, [1], [0, 1, 2, 3, 4, 5, 6, 7]) := by decide +kernel
theorem bf269_1111 : am_fetch (am_mth 269) 1111 = some (.goto 1080, 3, [], [5, 6, 7]) := by decide +kernel
theorem bf269_1114 : am_fetch (am_mth 269) 1114 = some (.aload_n 1, 1, [], [5, 6, 7]) := by decide +kernel
theorem bf269_1115 : am_fetch (am_mth 269) 1115 = some (.aload_n 0, 1, [], [5, 6, 7]) := by decide +kernel
theorem bf269_1116 : am_fetch (am_mth 269) 1116 = some (.iload 4, 2, [], [5, 6, 7]) := by decide +kernel
theorem bf269_1118 : am_fetch (am_mth 269) 1118 = some (.iconst 1, 1, [], [5, 6, 7]) := by decide +kernel
theorem bf269_1119 : am_fetch (am_mth 269) 1119 = some (.iadd, 1, [], [5, 6, 7]) := by decide +kernel
theorem bf269_1120 : am_fetch (am_mth 269) 1120 = some (.iaload, 1, [], [5, 6, 7]) := by decide +kernel
theorem bf269_1121 : am_fetch (am_mth 269) 1121 = some (.aload_n 3, 1, [], [5, 6, 7]) := by decide +kernel
theorem bf269_1122 : am_fetch (am_mth 269) 1122 = some (.invokestatic 169, 3, [0, 189, 3, 807, 808, 45], [5, 6, 7]) := by decide +kernel
theorem bf269_1125 : am_fetch (am_mth 269) 1125 = some (.istore 5, 2, [], [5, 6, 7]) := by decide +kernel
theorem bf269_1127 : am_fetch (am_mth 269) 1127 = some (.aload_n 2, 1, [], [6, 7]) := by decide +kernel
theorem bf269_1128 : am_fetch (am_mth 269) 1128 = some (.aload_n 0, 1, [], [6, 7]) := by decide +kernel
theorem bf269_1129 : am_fetch (am_mth 269) 1129 = some (.iload 4, 2, [], [6, 7]) := by decide +kernel
theorem bf269_1131 : am_fetch (am_mth 269) 1131 = some (.iconst 1, 1, [], [6, 7]) := by decide +kernel
theorem bf269_1132 : am_fetch (am_mth 269) 1132 = some (.iadd, 1, [], [6, 7]) := by decide +kernel
theorem bf269_1133 : am_fetch (am_mth 269) 1133 = some (.iaload, 1, [], [6, 7]) := by decide +kernel
theorem bf269_1134 : am_fetch (am_mth 269) 1134 = some (.invokevirtual 171, 3, [0, 145, 1, 11, 1545, 1546, 1547, 48], [6, 7]) := by decide +kernel
theorem bf269_1137 : am_fetch (am_mth 269) 1137 = some (.istore 6, 2, [], [6, 7]) := by decide +kernel
theorem bf269_1139 : am_fetch (am_mth 269) 1139 = some (.aload_n 2, 1, [], [7]) := by decide +kernel
theorem bf269_1140 : am_fetch (am_mth 269) 1140 = some (.invokevirtual 130, 3, [0, 266, 0, 11, 1234, 1235, 1236, 48], [7]) := by decide +kernel
theorem bf269_1143 : am_fetch (am_mth 269) 1143 = some (.iload 5, 2, [], [7]) := by decide +kernel
theorem bf269_1145 : am_fetch (am_mth 269) 1145 = some (.if_icmp .eq 5, 3, [], [7]) := by decide +kernel
theorem bf269_1148 : am_fetch (am_mth 269) 1148 = some (.iconst 0, 1, [], [0, 1, 2, 3, 4, 5, 6, 7]) := by decide +kernel
theorem bf269_1149 : am_fetch (am_mth 269) 1149 = some (.ireturn, 1, [1], [0, 1, 2, 3, 4, 5, 6, 7]) := by decide +kernel
theorem bf269_1150 : am_fetch (am_mth 269) 1150 = some (.iload 5, 2, [], [7]) := by decide +kernel
theorem bf269_1152 : am_fetch (am_mth 269) 1152 = some (.ifCond .ne 16, 3, [], [5, 7]) := by decide +kernel
theorem bf269_1155 : am_fetch (am_mth 269) 1155 = some (.aload_n 3, 1, [], [5, 7]) := by decide +kernel
theorem bf269_1156 : am_fetch (am_mth 269) 1156 = some (.getfield 13, 3, [1, 9, 0, 485], [5, 7]) := by decide +kernel
theorem bf269_1159 : am_fetch (am_mth 269) 1159 = some (.iload 6, 2, [], [5, 7]) := by decide +kernel
theorem bf269_1161 : am_fetch (am_mth 269) 1161 = some (.i2l, 1, [], [5, 6, 7]) := by decide +kernel
theorem bf269_1162 : am_fetch (am_mth 269) 1162 = some (.lcmp, 1, [], [5, 6, 7]) := by decide +kernel
theorem bf269_1163 : am_fetch (am_mth 269) 1163 = some (.ifCond .eq 5, 3, [], [5, 6, 7]) := by decide +kernel
theorem bf269_1166 : am_fetch (am_mth 269) 1166 = some (.iconst 0, 1, [], [0, 1, 2, 3, 4, 5, 6, 7]) := by decide +kernel
theorem bf269_1167 : am_fetch (am_mth 269) 1167 = some (.ireturn, 1, [1], [0, 1, 2, 3, 4, 5, 6, 7]) := by decide +kernel
theorem bf269_1168 : am_fetch (am_mth 269) 1168 = some (.goto 1023, 3, [], [5, 6, 7]) := by decide +kernel
theorem bf269_1171 : am_fetch (am_mth 269) 1171 = some (.aload_n 1, 1, [], [5, 6, 7]) := by decide +kernel
theorem bf269_1172 : am_fetch (am_mth 269) 1172 = some (.invokevirtual 172, 3, [0, 24, 0, 8, 139, 140, 141, 46], [5, 6, 7]) := by decide +kernel
theorem bf269_1175 : am_fetch (am_mth 269) 1175 = some (.aload_n 2, 1, [], [5, 6, 7]) := by decide +kernel
theorem bf269_1176 : am_fetch (am_mth 269) 1176 = some (.invokevirtual 175, 3, [0, 47, 0, 11, 1549, 1550, 1551, 48], [5, 6, 7]) := by decide +kernel
theorem bf269_1179 : am_fetch (am_mth 269) 1179 = some (.if_icmp .eq 1012, 3, [], [5, 6, 7]) := by decide +kernel
theorem bf269_1182 : am_fetch (am_mth 269) 1182 = some (.iconst 0, 1, [], [0, 1, 2, 3, 4, 5, 6, 7]) := by decide +kernel
theorem bf269_1183 : am_fetch (am_mth 269) 1183 = some (.ireturn, 1, [1], [0, 1, 2, 3, 4, 5, 6, 7]) := by decide +kernel
theorem bf269_1184 : am_fetch (am_mth 269) 1184 = some (.aload_n 1, 1, [], [5, 6, 7]) := by decide +kernel
theorem bf269_1185 : am_fetch (am_mth 269) 1185 = some (.aload_n 0, 1, [], [5, 6, 7]) := by decide +kernel
theorem bf269_1186 : am_fetch (am_mth 269) 1186 = some (.iload 4, 2, [], [5, 6, 7]) := by decide +kernel
theorem bf269_1188 : am_fetch (am_mth 269) 1188 = some (.iconst 1, 1, [], [5, 6, 7]) := by decide +kernel
theorem bf269_1189 : am_fetch (am_mth 269) 1189 = some (.iadd, 1, [], [5, 6, 7]) := by decide +kernel
theorem bf269_1190 : am_fetch (am_mth 269) 1190 = some (.iaload, 1, [], [5, 6, 7]) := by decide +kernel
theorem bf269_1191 : am_fetch (am_mth 269) 1191 = some (.aload_n 0, 1, [], [5, 6, 7]) := by decide +kernel
theorem bf269_1192 : am_fetch (am_mth 269) 1192 = some (.iload 4, 2, [], [5, 6, 7]) := by decide +kernel
theorem bf269_1194 : am_fetch (am_mth 269) 1194 = some (.iconst 2, 1, [], [5, 6, 7]) := by decide +kernel
theorem bf269_1195 : am_fetch (am_mth 269) 1195 = some (.iadd, 1, [], [5, 6, 7]) := by decide +kernel
theorem bf269_1196 : am_fetch (am_mth 269) 1196 = some (.iaload, 1, [], [5, 6, 7]) := by decide +kernel
theorem bf269_1197 : am_fetch (am_mth 269) 1197 = some (.aload_n 0, 1, [], [5, 6, 7]) := by decide +kernel
theorem bf269_1198 : am_fetch (am_mth 269) 1198 = some (.iload 4, 2, [], [5, 6, 7]) := by decide +kernel
theorem bf269_1200 : am_fetch (am_mth 269) 1200 = some (.iconst 3, 1, [], [5, 6, 7]) := by decide +kernel
theorem bf269_1201 : am_fetch (am_mth 269) 1201 = some (.iadd, 1, [], [5, 6, 7]) := by decide +kernel
theorem bf269_1202 : am_fetch (am_mth 269) 1202 = some (.iaload, 1, [], [5, 6, 7]) := by decide +kernel
theorem bf269_1203 : am_fetch (am_mth 269) 1203 = some (.aload_n 3, 1, [], [5, 6, 7]) := by decide +kernel
theorem bf269_1204 : am_fetch (am_mth 269) 1204 = some (.invokestatic 176, 3, [0, 219, 5, 815, 816, 45], [5, 6, 7]) := by decide +kernel
theorem bf269_1207 : am_fetch (am_mth 269) 1207 = some (.istore 5, 2, [], [5, 6, 7]) := by decide +kernel
theorem bf269_1209 : am_fetch (am_mth 269) 1209 = some (.aload_n 2, 1, [], [6, 7]) := by decide +kernel
theorem bf269_1210 : am_fetch (am_mth 269) 1210 = some (.aload_n 0, 1, [], [6, 7]) := by decide +kernel
theorem bf269_1211 : am_fetch (am_mth 269) 1211 = some (.iload 4, 2, [], [6, 7]) := by decide +kernel
theorem bf269_1213 : am_fetch (am_mth 269) 1213 = some (.iconst 1, 1, [], [6, 7]) := by decide +kernel
theorem bf269_1214 : am_fetch (am_mth 269) 1214 = some (.iadd, 1, [], [6, 7]) := by decide +kernel
theorem bf269_1215 : am_fetch (am_mth 269) 1215 = some (.iaload, 1, [], [6, 7]) := by decide +kernel
theorem bf269_1216 : am_fetch (am_mth 269) 1216 = some (.aload_n 0, 1, [], [6, 7]) := by decide +kernel
theorem bf269_1217 : am_fetch (am_mth 269) 1217 = some (.iload 4, 2, [], [6, 7]) := by decide +kernel
theorem bf269_1219 : am_fetch (am_mth 269) 1219 = some (.iconst 2, 1, [], [6, 7]) := by decide +kernel
theorem bf269_1220 : am_fetch (am_mth 269) 1220 = some (.iadd, 1, [], [6, 7]) := by decide +kernel
theorem bf269_1221 : am_fetch (am_mth 269) 1221 = some (.iaload, 1, [], [6, 7]) := by decide +kernel
theorem bf269_1222 : am_fetch (am_mth 269) 1222 = some (.aload_n 0, 1, [], [6, 7]) := by decide +kernel
theorem bf269_1223 : am_fetch (am_mth 269) 1223 = some (.iload 4, 2, [], [6, 7]) := by decide +kernel
theorem bf269_1225 : am_fetch (am_mth 269) 1225 = some (.iconst 3, 1, [], [6, 7]) := by decide +kernel
theorem bf269_1226 : am_fetch (am_mth 269) 1226 = some (.iadd, 1, [], [6, 7]) := by decide +kernel
theorem bf269_1227 : am_fetch (am_mth 269) 1227 = some (.iaload, 1, [], [6, 7]) := by decide +kernel
theorem bf269_1228 : am_fetch (am_mth 269) 1228 = some (.invokevirtual 179, 3, [0, 212, 3, 11, 1553, 1554, 1555, 48], [6, 7]) := by decide +kernel
theorem bf269_1231 : am_fetch (am_mth 269) 1231 = some (.istore 6, 2, [], [6, 7]) := by decide +kernel
theorem bf269_1233 : am_fetch (am_mth 269) 1233 = some (.aload_n 2, 1, [], [7]) := by decide +kernel
theorem bf269_1234 : am_fetch (am_mth 269) 1234 = some (.invokevirtual 130, 3, [0, 266, 0, 11, 1234, 1235, 1236, 48], [7]) := by decide +kernel
theorem bf269_1237 : am_fetch (am_mth 269) 1237 = some (.iload 5, 2, [], [7]) := by decide +kernel
theorem bf269_1239 : am_fetch (am_mth 269) 1239 = some (.if_icmp .eq 5, 3, [], [7]) := by decide +kernel
theorem bf269_1242 : am_fetch (am_mth 269) 1242 = some (.iconst 0, 1, [], [0, 1, 2, 3, 4, 5, 6, 7]) := by decide +kernel
theorem bf269_1243 : am_fetch (am_mth 269) 1243 = some (.ireturn, 1, [1], [0, 1, 2, 3, 4, 5, 6, 7]) := by decide +kernel
theorem bf269_1244 : am_fetch (am_mth 269) 1244 = some (.iload 5, 2, [], [7]) := by decide +kernel
theorem bf269_1246 : am_fetch (am_mth 269) 1246 = some (.ifCond .ne 16, 3, [], [5, 7]) := by decide +kernel
theorem bf269_1249 : am_fetch (am_mth 269) 1249 = some (.aload_n 3, 1, [], [5, 7]) := by decide +kernel
theorem bf269_1250 : am_fetch (am_mth 269) 1250 = some (.getfield 13, 3, [1, 9, 0, 485], [5, 7]) := by decide +kernel
theorem bf269_1253 : am_fetch (am_mth 269) 1253 = some (.iload 6, 2, [], [5, 7]) := by decide +kernel
theorem bf269_1255 : am_fetch (am_mth 269) 1255 = some (.i2l, 1, [], [5, 6, 7]) := by decide +kernel
theorem bf269_1256 : am_fetch (am_mth 269) 1256 = some (.lcmp, 1, [], [5, 6, 7]) := by decide +kernel
theorem bf269_1257 : am_fetch (am_mth 269) 1257 = some (.ifCond .eq 5, 3, [], [5, 6, 7]) := by decide +kernel
theorem bf269_1260 : am_fetch (am_mth 269) 1260 = some (.iconst 0, 1, [], [0, 1, 2, 3, 4, 5, 6, 7]) := by decide +kernel
theorem bf269_1261 : am_fetch (am_mth 269) 1261 = some (.ireturn, 1, [1], [0, 1, 2, 3, 4, 5, 6, 7]) := by decide +kernel
theorem bf269_1262 : am_fetch (am_mth 269) 1262 = some (.goto 929, 3, [], [5, 6, 7]) := by decide +kernel
theorem bf269_1265 : am_fetch (am_mth 269) 1265 = some (.aload_n 1, 1, [], [5, 6, 7]) := by decide +kernel
theorem bf269_1266 : am_fetch (am_mth 269) 1266 = some (.aload_n 0, 1, [], [5, 6, 7]) := by decide +kernel
theorem bf269_1267 : am_fetch (am_mth 269) 1267 = some (.iload 4, 2, [], [5, 6, 7]) := by decide +kernel
theorem bf269_1269 : am_fetch (am_mth 269) 1269 = some (.iconst 1, 1, [], [5, 6, 7]) := by decide +kernel
theorem bf269_1270 : am_fetch (am_mth 269) 1270 = some (.iadd, 1, [], [5, 6, 7]) := by decide +kernel
theorem bf269_1271 : am_fetch (am_mth 269) 1271 = some (.iaload, 1, [], [5, 6, 7]) := by decide +kernel
theorem bf269_1272 : am_fetch (am_mth 269) 1272 = some (.aload_n 0, 1, [], [5, 6, 7]) := by decide +kernel
theorem bf269_1273 : am_fetch (am_mth 269) 1273 = some (.iload 4, 2, [], [5, 6, 7]) := by decide +kernel
theorem bf269_1275 : am_fetch (am_mth 269) 1275 = some (.iconst 2, 1, [], [5, 6, 7]) := by decide +kernel
theorem bf269_1276 : am_fetch (am_mth 269) 1276 = some (.iadd, 1, [], [5, 6, 7]) := by decide +kernel
theorem bf269_1277 : am_fetch (am_mth 269) 1277 = some (.iaload, 1, [], [5, 6, 7]) := by decide +kernel
theorem bf269_1278 : am_fetch (am_mth 269) 1278 = some (.aload_n 3, 1, [], [5, 6, 7]) := by decide +kernel
theorem bf269_1279 : am_fetch (am_mth 269) 1279 = some (.invokestatic 180, 3, [0, 234, 4, 819, 820, 45], [5, 6, 7]) := by decide +kernel
theorem bf269_1282 : am_fetch (am_mth 269) 1282 = some (.istore 5, 2, [], [5, 6, 7]) := by decide +kernel
theorem bf269_1284 : am_fetch (am_mth 269) 1284 = some (.aload_n 2, 1, [], [6, 7]) := by decide +kernel
theorem bf269_1285 : am_fetch (am_mth 269) 1285 = some (.aload_n 0, 1, [], [6, 7]) := by decide +kernel
theorem bf269_1286 : am_fetch (am_mth 269) 1286 = some (.iload 4, 2, [], [6, 7]) := by decide +kernel
theorem bf269_1288 : am_fetch (am_mth 269) 1288 = some (.iconst 1, 1, [], [6, 7]) := by decide +kernel
theorem bf269_1289 : am_fetch (am_mth 269) 1289 = some (.iadd, 1, [], [6, 7]) := by decide +kernel
theorem bf269_1290 : am_fetch (am_mth 269) 1290 = some (.iaload, 1, [], [6, 7]) := by decide +kernel
theorem bf269_1291 : am_fetch (am_mth 269) 1291 = some (.aload_n 0, 1, [], [6, 7]) := by decide +kernel
theorem bf269_1292 : am_fetch (am_mth 269) 1292 = some (.iload 4, 2, [], [6, 7]) := by decide +kernel
theorem bf269_1294 : am_fetch (am_mth 269) 1294 = some (.iconst 2, 1, [], [6, 7]) := by decide +kernel
theorem bf269_1295 : am_fetch (am_mth 269) 1295 = some (.iadd, 1, [], [6, 7]) := by decide +kernel
theorem bf269_1296 : am_fetch (am_mth 269) 1296 = some (.iaload, 1, [], [6, 7]) := by decide +kernel
theorem bf269_1297 : am_fetch (am_mth 269) 1297 = some (.invokevirtual 182, 3, [0, 182, 2, 11, 1561, 1562, 1563, 48], [6, 7]) := by decide +kernel
theorem bf269_1300 : am_fetch (am_mth 269) 1300 = some (.istore 6, 2, [], [6, 7]) := by decide +kernel
theorem bf269_1302 : am_fetch (am_mth 269) 1302 = some (.aload_n 2, 1, [], [7]) := by decide +kernel
theorem bf269_1303 : am_fetch (am_mth 269) 1303 = some (.invokevirtual 130, 3, [0, 266, 0, 11, 1234, 1235, 1236, 48], [7]) := by decide +kernel
theorem bf269_1306 : am_fetch (am_mth 269) 1306 = some (.iload 5, 2, [], [7]) := by decide +kernel
theorem bf269_1308 : am_fetch (am_mth 269) 1308 = some (.if_icmp .eq 5, 3, [], [7]) := by decide +kernel
theorem bf269_1311 : am_fetch (am_mth 269) 1311 = some (.iconst 0, 1, [], [0, 1, 2, 3, 4, 5, 6, 7]) := by decide +kernel
theorem bf269_1312 : am_fetch (am_mth 269) 1312 = some (.ireturn, 1, [1], [0, 1, 2, 3, 4, 5, 6, 7]) := by decide +kernel
theorem bf269_1313 : am_fetch (am_mth 269) 1313 = some (.iload 5, 2, [], [7]) := by decide +kernel
theorem bf269_1315 : am_fetch (am_mth 269) 1315 = some (.ifCond .ne 16, 3, [], [5, 7]) := by decide +kernel
theorem bf269_1318 : am_fetch (am_mth 269) 1318 = some (.aload_n 3, 1, [], [5, 7]) := by decide +kernel
theorem bf269_1319 : am_fetch (am_mth 269) 1319 = some (.getfield 13, 3, [1, 9, 0, 485], [5, 7]) := by decide +kernel
theorem bf269_1322 : am_fetch (am_mth 269) 1322 = some (.iload 6, 2, [], [5, 7]) := by decide +kernel
theorem bf269_1324 : am_fetch (am_mth 269) 1324 = some (.i2l, 1, [], [5, 6, 7]) := by decide +kernel
theorem bf269_1325 : am_fetch (am_mth 269) 1325 = some (.lcmp, 1, [], [5, 6, 7]) := by decide +kernel
theorem bf269_1326 : am_fetch (am_mth 269) 1326 = some (.ifCond .eq 5, 3, [], [5, 6, 7]) := by decide +kernel
theorem bf269_1329 : am_fetch (am_mth 269) 1329 = some (.iconst 0, 1, [], [0, 1, 2, 3, 4, 5, 6, 7]) := by decide +kernel
theorem bf269_1330 : am_fetch (am_mth 269) 1330 = some (.ireturn, 1, [1], [0, 1, 2, 3, 4, 5, 6, 7]) := by decide +kernel
theorem bf269_1331 : am_fetch (am_mth 269) 1331 = some (.goto 860, 3, [], [5, 6, 7]) := by decide +kernel
theorem bf269_1334 : am_fetch (am_mth 269) 1334 = some (.aload_n 1, 1, [], [5, 6, 7]) := by decide +kernel
theorem bf269_1335 : am_fetch (am_mth 269) 1335 = some (.aload_n 0, 1, [], [5, 6, 7]) := by decide +kernel
theorem bf269_1336 : am_fetch (am_mth 269) 1336 = some (.iload 4, 2, [], [5, 6, 7]) := by decide +kernel
theorem bf269_1338 : am_fetch (am_mth 269) 1338 = some (.iconst 1, 1, [], [5, 6, 7]) := by decide +kernel
theorem bf269_1339 : am_fetch (am_mth 269) 1339 = some (.iadd, 1, [], [5, 6, 7]) := by decide +kernel
theorem bf269_1340 : am_fetch (am_mth 269) 1340 = some (.iaload, 1, [], [5, 6, 7]) := by decide +kernel
theorem bf269_1341 : am_fetch (am_mth 269) 1341 = some (.aload_n 3, 1, [], [5, 6, 7]) := by decide +kernel
theorem bf269_1342 : am_fetch (am_mth 269) 1342 = some (.invokestatic 183, 3, [0, 190, 3, 823, 824, 45], [5, 6, 7]) := by decide +kernel
theorem bf269_1345 : am_fetch (am_mth 269) 1345 = some (.istore 5, 2, [], [5, 6, 7]) := by decide +kernel
theorem bf269_1347 : am_fetch (am_mth 269) 1347 = some (.aload_n 2, 1, [], [6, 7]) := by decide +kernel
theorem bf269_1348 : am_fetch (am_mth 269) 1348 = some (.aload_n 0, 1, [], [6, 7]) := by decide +kernel
theorem bf269_1349 : am_fetch (am_mth 269) 1349 = some (.iload 4, 2, [], [6, 7]) := by decide +kernel
theorem bf269_1351 : am_fetch (am_mth 269) 1351 = some (.iconst 1, 1, [], [6, 7]) := by decide +kernel
theorem bf269_1352 : am_fetch (am_mth 269) 1352 = some (.iadd, 1, [], [6, 7]) := by decide +kernel
theorem bf269_1353 : am_fetch (am_mth 269) 1353 = some (.iaload, 1, [], [6, 7]) := by decide +kernel
theorem bf269_1354 : am_fetch (am_mth 269) 1354 = some (.invokevirtual 185, 3, [0, 227, 1, 11, 1569, 1570, 1571, 48], [6, 7]) := by decide +kernel
theorem bf269_1357 : am_fetch (am_mth 269) 1357 = some (.istore 6, 2, [], [6, 7]) := by decide +kernel
theorem bf269_1359 : am_fetch (am_mth 269) 1359 = some (.aload_n 2, 1, [], [7]) := by decide +kernel
theorem bf269_1360 : am_fetch (am_mth 269) 1360 = some (.invokevirtual 130, 3, [0, 266, 0, 11, 1234, 1235, 1236, 48], [7]) := by decide +kernel
theorem bf269_1363 : am_fetch (am_mth 269) 1363 = some (.iload 5, 2, [], [7]) := by decide +kernel
theorem bf269_1365 : am_fetch (am_mth 269) 1365 = some (.if_icmp .eq 5, 3, [], [7]) := by decide +kernel
theorem bf269_1368 : am_fetch (am_mth 269) 1368 = some (.iconst 0, 1, [], [0, 1, 2, 3, 4, 5, 6, 7]) := by decide +kernel
theorem bf269_1369 : am_fetch (am_mth 269) 1369 = some (.ireturn, 1, [1], [0, 1, 2, 3, 4, 5, 6, 7]) := by decide +kernel
theorem bf269_1370 : am_fetch (am_mth 269) 1370 = some (.iload 5, 2, [], [7]) := by decide +kernel
theorem bf269_1372 : am_fetch (am_mth 269) 1372 = some (.ifCond .ne 16, 3, [], [5, 7]) := by decide +kernel
theorem bf269_1375 : am_fetch (am_mth 269) 1375 = some (.aload_n 3, 1, [], [5, 7]) := by decide +kernel
theorem bf269_1376 : am_fetch (am_mth 269) 1376 = some (.getfield 13, 3, [1, 9, 0, 485], [5, 7]) := by decide +kernel
theorem bf269_1379 : am_fetch (am_mth 269) 1379 = some (.iload 6, 2, [], [5, 7]) := by decide +kernel
theorem bf269_1381 : am_fetch (am_mth 269) 1381 = some (.i2l, 1, [], [5, 6, 7]) := by decide +kernel
theorem bf269_1382 : am_fetch (am_mth 269) 1382 = some (.lcmp, 1, [], [5, 6, 7]) := by decide +kernel
theorem bf269_1383 : am_fetch (am_mth 269) 1383 = some (.ifCond .eq 5, 3, [], [5, 6, 7]) := by decide +kernel
theorem bf269_1386 : am_fetch (am_mth 269) 1386 = some (.iconst 0, 1, [], [0, 1, 2, 3, 4, 5, 6, 7]) := by decide +kernel
theorem bf269_1387 : am_fetch (am_mth 269) 1387 = some (.ireturn, 1, [1], [0, 1, 2, 3, 4, 5, 6, 7]) := by decide +kernel
theorem bf269_1388 : am_fetch (am_mth 269) 1388 = some (.goto 803, 3, [], [5, 6, 7]) := by decide +kernel
theorem bf269_1391 : am_fetch (am_mth 269) 1391 = some (.aload_n 1, 1, [], [5, 6, 7]) := by decide +kernel
theorem bf269_1392 : am_fetch (am_mth 269) 1392 = some (.aload_n 0, 1, [], [5, 6, 7]) := by decide +kernel
theorem bf269_1393 : am_fetch (am_mth 269) 1393 = some (.iload 4, 2, [], [5, 6, 7]) := by decide +kernel
theorem bf269_1395 : am_fetch (am_mth 269) 1395 = some (.iconst 1, 1, [], [5, 6, 7]) := by decide +kernel
theorem bf269_1396 : am_fetch (am_mth 269) 1396 = some (.iadd, 1, [], [5, 6, 7]) := by decide +kernel
theorem bf269_1397 : am_fetch (am_mth 269) 1397 = some (.iaload, 1, [], [5, 6, 7]) := by decide +kernel
theorem bf269_1398 : am_fetch (am_mth 269) 1398 = some (.aload_n 3, 1, [], [5, 6, 7]) := by decide +kernel
theorem bf269_1399 : am_fetch (am_mth 269) 1399 = some (.invokestatic 186, 3, [0, 257, 3, 827, 828, 45], [5, 6, 7]) := by decide +kernel
theorem bf269_1402 : am_fetch (am_mth 269) 1402 = some (.istore 5, 2, [], [5, 6, 7]) := by decide +kernel
theorem bf269_1404 : am_fetch (am_mth 269) 1404 = some (.aload_n 2, 1, [], [6, 7]) := by decide +kernel
theorem bf269_1405 : am_fetch (am_mth 269) 1405 = some (.aload_n 0, 1, [], [6, 7]) := by decide +kernel
theorem bf269_1406 : am_fetch (am_mth 269) 1406 = some (.iload 4, 2, [], [6, 7]) := by decide +kernel
theorem bf269_1408 : am_fetch (am_mth 269) 1408 = some (.iconst 1, 1, [], [6, 7]) := by decide +kernel
theorem bf269_1409 : am_fetch (am_mth 269) 1409 = some (.iadd, 1, [], [6, 7]) := by decide +kernel
theorem bf269_1410 : am_fetch (am_mth 269) 1410 = some (.iaload, 1, [], [6, 7]) := by decide +kernel
theorem bf269_1411 : am_fetch (am_mth 269) 1411 = some (.invokevirtual 188, 3, [0, 246, 1, 11, 1577, 1578, 1579, 48], [6, 7]) := by decide +kernel
theorem bf269_1414 : am_fetch (am_mth 269) 1414 = some (.astore 6, 2, [], [6, 7]) := by decide +kernel
theorem bf269_1416 : am_fetch (am_mth 269) 1416 = some (.aload_n 2, 1, [], [7]) := by decide +kernel
theorem bf269_1417 : am_fetch (am_mth 269) 1417 = some (.invokevirtual 130, 3, [0, 266, 0, 11, 1234, 1235, 1236, 48], [7]) := by decide +kernel
theorem bf269_1420 : am_fetch (am_mth 269) 1420 = some (.iload 5, 2, [], [7]) := by decide +kernel
theorem bf269_1422 : am_fetch (am_mth 269) 1422 = some (.if_icmp .eq 5, 3, [], [7]) := by decide +kernel
theorem bf269_1425 : am_fetch (am_mth 269) 1425 = some (.iconst 0, 1, [], [0, 1, 2, 3, 4, 5, 6, 7]) := by decide +kernel
theorem bf269_1426 : am_fetch (am_mth 269) 1426 = some (.ireturn, 1, [1], [0, 1, 2, 3, 4, 5, 6, 7]) := by decide +kernel
theorem bf269_1427 : am_fetch (am_mth 269) 1427 = some (.iload 5, 2, [], [7]) := by decide +kernel
theorem bf269_1429 : am_fetch (am_mth 269) 1429 = some (.ifCond .ne 17, 3, [], [5, 7]) := by decide +kernel
theorem bf269_1432 : am_fetch (am_mth 269) 1432 = some (.aload_n 3, 1, [], [5, 7]) := by decide +kernel
theorem bf269_1433 : am_fetch (am_mth 269) 1433 = some (.getfield 78, 3, [1, 9, 2, 487], [5, 7]) := by decide +kernel
theorem bf269_1436 : am_fetch (am_mth 269) 1436 = some (.aload 6, 2, [], [5, 7]) := by decide +kernel
theorem bf269_1438 : am_fetch (am_mth 269) 1438 = some (.invokevirtual 189, 3, [0, 268, 1, 0, 1701, 1702, 1703, 75], [5, 6, 7]) := by decide +kernel
theorem bf269_1441 : am_fetch (am_mth 269) 1441 = some (.ifCond .ne 5, 3, [], [5, 6, 7]) := by decide +kernel
theorem bf269_1444 : am_fetch (am_mth 269) 1444 = some (.iconst 0, 1, [], [0, 1, 2, 3, 4, 5, 6, 7]) := by decide +kernel
theorem bf269_1445 : am_fetch (am_mth 269) 1445 = some (.ireturn, 1, [1], [0, 1, 2, 3, 4, 5, 6, 7]) := by decide +kernel
theorem bf269_1446 : am_fetch (am_mth 269) 1446 = some (.goto 745, 3, [], [5, 6, 7]) := by decide +kernel
theorem bf269_1449 : am_fetch (am_mth 269) 1449 = some (.aload_n 1, 1, [], [5, 6, 7]) := by decide +kernel
theorem bf269_1450 : am_fetch (am_mth 269) 1450 = some (.aload_n 0, 1, [], [5, 6, 7]) := by decide +kernel
theorem bf269_1451 : am_fetch (am_mth 269) 1451 = some (.iload 4, 2, [], [5, 6, 7]) := by decide +kernel
theorem bf269_1453 : am_fetch (am_mth 269) 1453 = some (.iconst 1, 1, [], [5, 6, 7]) := by decide +kernel
theorem bf269_1454 : am_fetch (am_mth 269) 1454 = some (.iadd, 1, [], [5, 6, 7]) := by decide +kernel
theorem bf269_1455 : am_fetch (am_mth 269) 1455 = some (.iaload, 1, [], [5, 6, 7]) := by decide +kernel
theorem bf269_1456 : am_fetch (am_mth 269) 1456 = some (.aload_n 0, 1, [], [5, 6, 7]) := by decide +kernel
theorem bf269_1457 : am_fetch (am_mth 269) 1457 = some (.iload 4, 2, [], [5, 6, 7]) := by decide +kernel
theorem bf269_1459 : am_fetch (am_mth 269) 1459 = some (.iconst 2, 1, [], [5, 6, 7]) := by decide +kernel
theorem bf269_1460 : am_fetch (am_mth 269) 1460 = some (.iadd, 1, [], [5, 6, 7]) := by decide +kernel
theorem bf269_1461 : am_fetch (am_mth 269) 1461 = some (.iaload, 1, [], [5, 6, 7]) := by decide +kernel
theorem bf269_1462 : am_fetch (am_mth 269) 1462 = some (.aload_n 0, 1, [], [5, 6, 7]) := by decide +kernel
theorem bf269_1463 : am_fetch (am_mth 269) 1463 = some (.iload 4, 2, [], [5, 6, 7]) := by decide +kernel
theorem bf269_1465 : am_fetch (am_mth 269) 1465 = some (.iconst 3, 1, [], [5, 6, 7]) := by decide +kernel
theorem bf269_1466 : am_fetch (am_mth 269) 1466 = some (.iadd, 1, [], [5, 6, 7]) := by decide +kernel
theorem bf269_1467 : am_fetch (am_mth 269) 1467 = some (.iaload, 1, [], [5, 6, 7]) := by decide +kernel
theorem bf269_1468 : am_fetch (am_mth 269) 1468 = some (.aload_n 3, 1, [], [5, 6, 7]) := by decide +kernel
theorem bf269_1469 : am_fetch (am_mth 269) 1469 = some (.invokestatic 195, 3, [0, 191, 5, 1100, 1101, 45], [5, 6, 7]) := by decide +kernel
theorem bf269_1472 : am_fetch (am_mth 269) 1472 = some (.istore 5, 2, [], [5, 6, 7]) := by decide +kernel
theorem bf269_1474 : am_fetch (am_mth 269) 1474 = some (.aload_n 2, 1, [], [6, 7]) := by decide +kernel
theorem bf269_1475 : am_fetch (am_mth 269) 1475 = some (.aload_n 0, 1, [], [6, 7]) := by decide +kernel
theorem bf269_1476 : am_fetch (am_mth 269) 1476 = some (.iload 4, 2, [], [6, 7]) := by decide +kernel
theorem bf269_1478 : am_fetch (am_mth 269) 1478 = some (.iconst 1, 1, [], [6, 7]) := by decide +kernel
theorem bf269_1479 : am_fetch (am_mth 269) 1479 = some (.iadd, 1, [], [6, 7]) := by decide +kernel
theorem bf269_1480 : am_fetch (am_mth 269) 1480 = some (.iaload, 1, [], [6, 7]) := by decide +kernel
theorem bf269_1481 : am_fetch (am_mth 269) 1481 = some (.aload_n 0, 1, [], [6, 7]) := by decide +kernel
theorem bf269_1482 : am_fetch (am_mth 269) 1482 = some (.iload 4, 2, [], [6, 7]) := by decide +kernel
theorem bf269_1484 : am_fetch (am_mth 269) 1484 = some (.iconst 2, 1, [], [6, 7]) := by decide +kernel
theorem bf269_1485 : am_fetch (am_mth 269) 1485 = some (.iadd, 1, [], [6, 7]) := by decide +kernel
theorem bf269_1486 : am_fetch (am_mth 269) 1486 = some (.iaload, 1, [], [6, 7]) := by decide +kernel
theorem bf269_1487 : am_fetch (am_mth 269) 1487 = some (.aload_n 0, 1, [], [6, 7]) := by decide +kernel
theorem bf269_1488 : am_fetch (am_mth 269) 1488 = some (.iload 4, 2, [], [6, 7]) := by decide +kernel
theorem bf269_1490 : am_fetch (am_mth 269) 1490 = some (.iconst 3, 1, [], [6, 7]) := by decide +kernel
theorem bf269_1491 : am_fetch (am_mth 269) 1491 = some (.iadd, 1, [], [6, 7]) := by decide +kernel
theorem bf269_1492 : am_fetch (am_mth 269) 1492 = some (.iaload, 1, [], [6, 7]) := by decide +kernel
theorem bf269_1493 : am_fetch (am_mth 269) 1493 = some (.invokevirtual 197, 3, [0, 214, 3, 11, 1620, 1621, 1622, 48], [6, 7]) := by decide +kernel
theorem bf269_1496 : am_fetch (am_mth 269) 1496 = some (.istore 6, 2, [], [6, 7]) := by decide +kernel
theorem bf269_1498 : am_fetch (am_mth 269) 1498 = some (.aload_n 2, 1, [], [7]) := by decide +kernel
theorem bf269_1499 : am_fetch (am_mth 269) 1499 = some (.invokevirtual 130, 3, [0, 266, 0, 11, 1234, 1235, 1236, 48], [7]) := by decide +kernel
theorem bf269_1502 : am_fetch (am_mth 269) 1502 = some (.iload 5, 2, [], [7]) := by decide +kernel
theorem bf269_1504 : am_fetch (am_mth 269) 1504 = some (.if_icmp .eq 5, 3, [], [7]) := by decide +kernel
theorem bf269_1507 : am_fetch (am_mth 269) 1507 = some (.iconst 0, 1, [], [0, 1, 2, 3, 4, 5, 6, 7]) := by decide +kernel
theorem bf269_1508 : am_fetch (am_mth 269) 1508 = some (.ireturn, 1, [1], [0, 1, 2, 3, 4, 5, 6, 7]) := by decide +kernel
theorem bf269_1509 : am_fetch (am_mth 269) 1509 = some (.iload 5, 2, [], [7]) := by decide +kernel
theorem bf269_1511 : am_fetch (am_mth 269) 1511 = some (.ifCond .ne 16, 3, [], [5, 7]) := by decide +kernel
theorem bf269_1514 : am_fetch (am_mth 269) 1514 = some (.aload_n 3, 1, [], [5, 7]) := by decide +kernel
theorem bf269_1515 : am_fetch (am_mth 269) 1515 = some (.getfield 13, 3, [1, 9, 0, 485], [5, 7]) := by decide +kernel
theorem bf269_1518 : am_fetch (am_mth 269) 1518 = some (.iload 6, 2, [], [5, 7]) := by decide +kernel
theorem bf269_1520 : am_fetch (am_mth 269) 1520 = some (.i2l, 1, [], [5, 6, 7]) := by decide +kernel
theorem bf269_1521 : am_fetch (am_mth 269) 1521 = some (.lcmp, 1, [], [5, 6, 7]) := by decide +kernel
theorem bf269_1522 : am_fetch (am_mth 269) 1522 = some (.ifCond .eq 5, 3, [], [5, 6, 7]) := by decide +kernel
theorem bf269_1525 : am_fetch (am_mth 269) 1525 = some (.iconst 0, 1, [], [0, 1, 2, 3, 4, 5, 6, 7]) := by decide +kernel
theorem bf269_1526 : am_fetch (am_mth 269) 1526 = some (.ireturn, 1, [1], [0, 1, 2, 3, 4, 5, 6, 7]) := by decide +kernel
theorem bf269_1527 : am_fetch (am_mth 269) 1527 = some (.goto 664, 3, [], [5, 6, 7]) := by decide +kernel
theorem bf269_1530 : am_fetch (am_mth 269) 1530 = some (.aload_n 1, 1, [], [5, 6, 7]) := by decide +kernel
theorem bf269_1531 : am_fetch (am_mth 269) 1531 = some (.aload_n 0, 1, [], [5, 6, 7]) := by decide +kernel
theorem bf269_1532 : am_fetch (am_mth 269) 1532 = some (.iload 4, 2, [], [5, 6, 7]) := by decide +kernel
theorem bf269_1534 : am_fetch (am_mth 269) 1534 = some (.iconst 1, 1, [], [5, 6, 7]) := by decide +kernel
theorem bf269_1535 : am_fetch (am_mth 269) 1535 = some (.iadd, 1, [], [5, 6, 7]) := by decide +kernel
theorem bf269_1536 : am_fetch (am_mth 269) 1536 = some (.iaload, 1, [], [5, 6, 7]) := by decide +kernel
theorem bf269_1537 : am_fetch (am_mth 269) 1537 = some (.aload_n 0, 1, [], [5, 6, 7]) := by decide +kernel
theorem bf269_1538 : am_fetch (am_mth 269) 1538 = some (.iload 4, 2, [], [5, 6, 7]) := by decide +kernel
theorem bf269_1540 : am_fetch (am_mth 269) 1540 = some (.iconst 2, 1, [], [5, 6, 7]) := by decide +kernel
theorem bf269_1541 : am_fetch (am_mth 269) 1541 = some (.iadd, 1, [], [5, 6, 7]) := by decide +kernel
theorem bf269_1542 : am_fetch (am_mth 269) 1542 = some (.iaload, 1, [], [5, 6, 7]) := by decide +kernel
theorem bf269_1543 : am_fetch (am_mth 269) 1543 = some (.aload_n 3, 1, [], [5, 6, 7]) := by decide +kernel
theorem bf269_1544 : am_fetch (am_mth 269) 1544 = some (.invokestatic 198, 3, [0, 192, 4, 1104, 1105, 45], [5, 6, 7]) := by decide +kernel
theorem bf269_1547 : am_fetch (am_mth 269) 1547 = some (.istore 5, 2, [], [5, 6, 7]) := by decide +kernel
theorem bf269_1549 : am_fetch (am_mth 269) 1549 = some (.aload_n 2, 1, [], [6, 7]) := by decide +kernel
theorem bf269_1550 : am_fetch (am_mth 269) 1550 = some (.aload_n 0, 1, [], [6, 7]) := by decide +kernel
theorem bf269_1551 : am_fetch (am_mth 269) 1551 = some (.iload 4, 2, [], [6, 7]) := by decide +kernel
theorem bf269_1553 : am_fetch (am_mth 269) 1553 = some (.iconst 1, 1, [], [6, 7]) := by decide +kernel
theorem bf269_1554 : am_fetch (am_mth 269) 1554 = some (.iadd, 1, [], [6, 7]) := by decide +kernel
theorem bf269_1555 : am_fetch (am_mth 269) 1555 = some (.iaload, 1, [], [6, 7]) := by decide +kernel
theorem bf269_1556 : am_fetch (am_mth 269) 1556 = some (.aload_n 0, 1, [], [6, 7]) := by decide +kernel
theorem bf269_1557 : am_fetch (am_mth 269) 1557 = some (.iload 4, 2, [], [6, 7]) := by decide +kernel
theorem bf269_1559 : am_fetch (am_mth 269) 1559 = some (.iconst 2, 1, [], [6, 7]) := by decide +kernel
theorem bf269_1560 : am_fetch (am_mth 269) 1560 = some (.iadd, 1, [], [6, 7]) := by decide +kernel
theorem bf269_1561 : am_fetch (am_mth 269) 1561 = some (.iaload, 1, [], [6, 7]) := by decide +kernel
theorem bf269_1562 : am_fetch (am_mth 269) 1562 = some (.invokevirtual 200, 3, [0, 183, 2, 11, 1624, 1625, 1626, 48], [6, 7]) := by decide +kernel
theorem bf269_1565 : am_fetch (am_mth 269) 1565 = some (.istore 6, 2, [], [6, 7]) := by decide +kernel
theorem bf269_1567 : am_fetch (am_mth 269) 1567 = some (.aload_n 2, 1, [], [7]) := by decide +kernel
theorem bf269_1568 : am_fetch (am_mth 269) 1568 = some (.invokevirtual 130, 3, [0, 266, 0, 11, 1234, 1235, 1236, 48], [7]) := by decide +kernel
theorem bf269_1571 : am_fetch (am_mth 269) 1571 = some (.iload 5, 2, [], [7]) := by decide +kernel
theorem bf269_1573 : am_fetch (am_mth 269) 1573 = some (.if_icmp .eq 5, 3, [], [7]) := by decide +kernel
theorem bf269_1576 : am_fetch (am_mth 269) 1576 = some (.iconst 0, 1, [], [0, 1, 2, 3, 4, 5, 6, 7]) := by decide +kernel
theorem bf269_1577 : am_fetch (am_mth 269) 1577 = some (.ireturn, 1, [1], [0, 1, 2, 3, 4, 5, 6, 7]) := by decide +kernel
theorem bf269_1578 : am_fetch (am_mth 269) 1578 = some (.iload 5, 2, [], [7]) := by decide +kernel
theorem bf269_1580 : am_fetch (am_mth 269) 1580 = some (.ifCond .ne 23, 3, [], [5, 7]) := by decide +kernel
theorem bf269_1583 : am_fetch (am_mth 269) 1583 = some (.aload_n 3, 1, [], [5, 7]) := by decide +kernel
theorem bf269_1584 : am_fetch (am_mth 269) 1584 = some (.getfield 13, 3, [1, 9, 0, 485], [5, 7]) := by decide +kernel
theorem bf269_1587 : am_fetch (am_mth 269) 1587 = some (.iload 6, 2, [], [5, 7]) := by decide +kernel
theorem bf269_1589 : am_fetch (am_mth 269) 1589 = some (.ifCond .eq 7, 3, [], [5, 6, 7]) := by decide +kernel
theorem bf269_1592 : am_fetch (am_mth 269) 1592 = some (.lconst 1, 1, [], [5, 6, 7]) := by decide +kernel
theorem bf269_1593 : am_fetch (am_mth 269) 1593 = some (.goto 4, 3, [], [5, 6, 7]) := by decide +kernel
theorem bf269_1596 : am_fetch (am_mth 269) 1596 = some (.lconst 0, 1, [], [5, 6, 7]) := by decide +kernel
theorem bf269_1597 : am_fetch (am_mth 269) 1597 = some (.lcmp, 1, [], [5, 6, 7]) := by decide +kernel
theorem bf269_1598 : am_fetch (am_mth 269) 1598 = some (.ifCond .eq 5, 3, [], [5, 6, 7]) := by decide +kernel
theorem bf269_1601 : am_fetch (am_mth 269) 1601 = some (.iconst 0, 1, [], [0, 1, 2, 3, 4, 5, 6, 7]) := by decide +kernel
theorem bf269_1602 : am_fetch (am_mth 269) 1602 = some (.ireturn, 1, [1], [0, 1, 2, 3, 4, 5, 6, 7]) := by decide +kernel
theorem bf269_1603 : am_fetch (am_mth 269) 1603 = some (.goto 588, 3, [], [5, 6, 7]) := by decide +kernel
theorem bf269_1606 : am_fetch (am_mth 269) 1606 = some (.aload_n 1, 1, [], [5, 6, 7]) := by decide +kernel
theorem bf269_1607 : am_fetch (am_mth 269) 1607 = some (.aload_n 0, 1, [], [5, 6, 7]) := by decide +kernel
theorem bf269_1608 : am_fetch (am_mth 269) 1608 = some (.iload 4, 2, [], [5, 6, 7]) := by decide +kernel
theorem bf269_1610 : am_fetch (am_mth 269) 1610 = some (.iconst 1, 1, [], [5, 6, 7]) := by decide +kernel
theorem bf269_1611 : am_fetch (am_mth 269) 1611 = some (.iadd, 1, [], [5, 6, 7]) := by decide +kernel
theorem bf269_1612 : am_fetch (am_mth 269) 1612 = some (.iaload, 1, [], [5, 6, 7]) := by decide +kernel
theorem bf269_1613 : am_fetch (am_mth 269) 1613 = some (.aload_n 0, 1, [], [5, 6, 7]) := by decide +kernel
theorem bf269_1614 : am_fetch (am_mth 269) 1614 = some (.iload 4, 2, [], [5, 6, 7]) := by decide +kernel
theorem bf269_1616 : am_fetch (am_mth 269) 1616 = some (.iconst 2, 1, [], [5, 6, 7]) := by decide +kernel
theorem bf269_1617 : am_fetch (am_mth 269) 1617 = some (.iadd, 1, [], [5, 6, 7]) := by decide +kernel
theorem bf269_1618 : am_fetch (am_mth 269) 1618 = some (.iaload, 1, [], [5, 6, 7]) := by decide +kernel
theorem bf269_1619 : am_fetch (am_mth 269) 1619 = some (.aload_n 3, 1, [], [5, 6, 7]) := by decide +kernel
theorem bf269_1620 : am_fetch (am_mth 269) 1620 = some (.invokestatic 201, 3, [0, 193, 4, 1116, 1117, 45], [5, 6, 7]) := by decide +kernel
theorem bf269_1623 : am_fetch (am_mth 269) 1623 = some (.istore 5, 2, [], [5, 6, 7]) := by decide +kernel
theorem bf269_1625 : am_fetch (am_mth 269) 1625 = some (.aload_n 2, 1, [], [6, 7]) := by decide +kernel
theorem bf269_1626 : am_fetch (am_mth 269) 1626 = some (.aload_n 0, 1, [], [6, 7]) := by decide +kernel
theorem bf269_1627 : am_fetch (am_mth 269) 1627 = some (.iload 4, 2, [], [6, 7]) := by decide +kernel
theorem bf269_1629 : am_fetch (am_mth 269) 1629 = some (.iconst 1, 1, [], [6, 7]) := by decide +kernel
theorem bf269_1630 : am_fetch (am_mth 269) 1630 = some (.iadd, 1, [], [6, 7]) := by decide +kernel
theorem bf269_1631 : am_fetch (am_mth 269) 1631 = some (.iaload, 1, [], [6, 7]) := by decide +kernel
theorem bf269_1632 : am_fetch (am_mth 269) 1632 = some (.aload_n 0, 1, [], [6, 7]) := by decide +kernel
theorem bf269_1633 : am_fetch (am_mth 269) 1633 = some (.iload 4, 2, [], [6, 7]) := by decide +kernel
theorem bf269_1635 : am_fetch (am_mth 269) 1635 = some (.iconst 2, 1, [], [6, 7]) := by decide +kernel
theorem bf269_1636 : am_fetch (am_mth 269) 1636 = some (.iadd, 1, [], [6, 7]) := by decide +kernel
theorem bf269_1637 : am_fetch (am_mth 269) 1637 = some (.iaload, 1, [], [6, 7]) := by decide +kernel
theorem bf269_1638 : am_fetch (am_mth 269) 1638 = some (.invokevirtual 203, 3, [0, 184, 2, 11, 1628, 1629, 1630, 48], [6, 7]) := by decide +kernel
theorem bf269_1641 : am_fetch (am_mth 269) 1641 = some (.lstore 6, 2, [], [6, 7]) := by decide +kernel
theorem bf269_1643 : am_fetch (am_mth 269) 1643 = some (.aload_n 2, 1, [], [7]) := by decide +kernel
theorem bf269_1644 : am_fetch (am_mth 269) 1644 = some (.invokevirtual 130, 3, [0, 266, 0, 11, 1234, 1235, 1236, 48], [7]) := by decide +kernel
theorem bf269_1647 : am_fetch (am_mth 269) 1647 = some (.iload 5, 2, [], [7]) := by decide +kernel
theorem bf269_1649 : am_fetch (am_mth 269) 1649 = some (.if_icmp .eq 5, 3, [], [7]) := by decide +kernel
theorem bf269_1652 : am_fetch (am_mth 269) 1652 = some (.iconst 0, 1, [], [0, 1, 2, 3, 4, 5, 6, 7]) := by decide +kernel
theorem bf269_1653 : am_fetch (am_mth 269) 1653 = some (.ireturn, 1, [1], [0, 1, 2, 3, 4, 5, 6, 7]) := by decide +kernel
theorem bf269_1654 : am_fetch (am_mth 269) 1654 = some (.iload 5, 2, [], [7]) := by decide +kernel
theorem bf269_1656 : am_fetch (am_mth 269) 1656 = some (.ifCond .ne 15, 3, [], [5, 7]) := by decide +kernel
theorem bf269_1659 : am_fetch (am_mth 269) 1659 = some (.aload_n 3, 1, [], [5, 7]) := by decide +kernel
theorem bf269_1660 : am_fetch (am_mth 269) 1660 = some (.getfield 13, 3, [1, 9, 0, 485], [5, 7]) := by decide +kernel
theorem bf269_1663 : am_fetch (am_mth 269) 1663 = some (.lload 6, 2, [], [5, 7]) := by decide +kernel
theorem bf269_1665 : am_fetch (am_mth 269) 1665 = some (.lcmp, 1, [], [5, 6, 7]) := by decide +kernel
theorem bf269_1666 : am_fetch (am_mth 269) 1666 = some (.ifCond .eq 5, 3, [], [5, 6, 7]) := by decide +kernel
theorem bf269_1669 : am_fetch (am_mth 269) 1669 = some (.iconst 0, 1, [], [0, 1, 2, 3, 4, 5, 6, 7]) := by decide +kernel
theorem bf269_1670 : am_fetch (am_mth 269) 1670 = some (.ireturn, 1, [1], [0, 1, 2, 3, 4, 5, 6, 7]) := by decide +kernel
theorem bf269_1671 : am_fetch (am_mth 269) 1671 = some (.goto 520, 3, [], [5, 6, 7]) := by decide +kernel
theorem bf269_1674 : am_fetch (am_mth 269) 1674 = some (.aload_n 1, 1, [], [5, 6, 7]) := by decide +kernel
theorem bf269_1675 : am_fetch (am_mth 269) 1675 = some (.aload_n 0, 1, [], [5, 6, 7]) := by decide +kernel
theorem bf269_1676 : am_fetch (am_mth 269) 1676 = some (.iload 4, 2, [], [5, 6, 7]) := by decide +kernel
theorem bf269_1678 : am_fetch (am_mth 269) 1678 = some (.iconst 1, 1, [], [5, 6, 7]) := by decide +kernel
theorem bf269_1679 : am_fetch (am_mth 269) 1679 = some (.iadd, 1, [], [5, 6, 7]) := by decide +kernel
theorem bf269_1680 : am_fetch (am_mth 269) 1680 = some (.iaload, 1, [], [5, 6, 7]) := by decide +kernel
theorem bf269_1681 : am_fetch (am_mth 269) 1681 = some (.aload_n 0, 1, [], [5, 6, 7]) := by decide +kernel
theorem bf269_1682 : am_fetch (am_mth 269) 1682 = some (.iload 4, 2, [], [5, 6, 7]) := by decide +kernel
theorem bf269_1684 : am_fetch (am_mth 269) 1684 = some (.iconst 2, 1, [], [5, 6, 7]) := by decide +kernel
theorem bf269_1685 : am_fetch (am_mth 269) 1685 = some (.iadd, 1, [], [5, 6, 7]) := by decide +kernel
theorem bf269_1686 : am_fetch (am_mth 269) 1686 = some (.iaload, 1, [], [5, 6, 7]) := by decide +kernel
theorem bf269_1687 : am_fetch (am_mth 269) 1687 = some (.aload_n 0, 1, [], [5, 6, 7]) := by decide +kernel
theorem bf269_1688 : am_fetch (am_mth 269) 1688 = some (.iload 4, 2, [], [5, 6, 7]) := by decide +kernel
theorem bf269_1690 : am_fetch (am_mth 269) 1690 = some (.iconst 3, 1, [], [5, 6, 7]) := by decide +kernel
theorem bf269_1691 : am_fetch (am_mth 269) 1691 = some (.iadd, 1, [], [5, 6, 7]) := by decide +kernel
theorem bf269_1692 : am_fetch (am_mth 269) 1692 = some (.iaload, 1, [], [5, 6, 7]) := by decide +kernel
theorem bf269_1693 : am_fetch (am_mth 269) 1693 = some (.aload_n 3, 1, [], [5, 6, 7]) := by decide +kernel
theorem bf269_1694 : am_fetch (am_mth 269) 1694 = some (.invokestatic 204, 3, [0, 194, 5, 1120, 1121, 45], [5, 6, 7]) := by decide +kernel
theorem bf269_1697 : am_fetch (am_mth 269) 1697 = some (.istore 5, 2, [], [5, 6, 7]) := by decide +kernel
theorem bf269_1699 : am_fetch (am_mth 269) 1699 = some (.aload_n 2, 1, [], [6, 7]) := by decide +kernel
theorem bf269_1700 : am_fetch (am_mth 269) 1700 = some (.aload_n 0, 1, [], [6, 7]) := by decide +kernel
theorem bf269_1701 : am_fetch (am_mth 269) 1701 = some (.iload 4, 2, [], [6, 7]) := by decide +kernel
theorem bf269_1703 : am_fetch (am_mth 269) 1703 = some (.iconst 1, 1, [], [6, 7]) := by decide +kernel
theorem bf269_1704 : am_fetch (am_mth 269) 1704 = some (.iadd, 1, [], [6, 7]) := by decide +kernel
theorem bf269_1705 : am_fetch (am_mth 269) 1705 = some (.iaload, 1, [], [6, 7]) := by decide +kernel
theorem bf269_1706 : am_fetch (am_mth 269) 1706 = some (.aload_n 0, 1, [], [6, 7]) := by decide +kernel
theorem bf269_1707 : am_fetch (am_mth 269) 1707 = some (.iload 4, 2, [], [6, 7]) := by decide +kernel
theorem bf269_1709 : am_fetch (am_mth 269) 1709 = some (.iconst 2, 1, [], [6, 7]) := by decide +kernel
theorem bf269_1710 : am_fetch (am_mth 269) 1710 = some (.iadd, 1, [], [6, 7]) := by decide +kernel
theorem bf269_1711 : am_fetch (am_mth 269) 1711 = some (.iaload, 1, [], [6, 7]) := by decide +kernel
theorem bf269_1712 : am_fetch (am_mth 269) 1712 = some (.aload_n 0, 1, [], [6, 7]) := by decide +kernel
theorem bf269_1713 : am_fetch (am_mth 269) 1713 = some (.iload 4, 2, [], [6, 7]) := by decide +kernel
theorem bf269_1715 : am_fetch (am_mth 269) 1715 = some (.iconst 3, 1, [], [6, 7]) := by decide +kernel
theorem bf269_1716 : am_fetch (am_mth 269) 1716 = some (.iadd, 1, [], [6, 7]) := by decide +kernel
theorem bf269_1717 : am_fetch (am_mth 269) 1717 = some (.iaload, 1, [], [6, 7]) := by decide +kernel
theorem bf269_1718 : am_fetch (am_mth 269) 1718 = some (.invokevirtual 206, 3, [0, 228, 3, 11, 1636, 1637, 1638, 48], [6, 7]) := by decide +kernel
theorem bf269_1721 : am_fetch (am_mth 269) 1721 = some (.istore 6, 2, [], [6, 7]) := by decide +kernel
theorem bf269_1723 : am_fetch (am_mth 269) 1723 = some (.aload_n 2, 1, [], [7]) := by decide +kernel
theorem bf269_1724 : am_fetch (am_mth 269) 1724 = some (.invokevirtual 130, 3, [0, 266, 0, 11, 1234, 1235, 1236, 48], [7]) := by decide +kernel
theorem bf269_1727 : am_fetch (am_mth 269) 1727 = some (.iload 5, 2, [], [7]) := by decide +kernel
theorem bf269_1729 : am_fetch (am_mth 269) 1729 = some (.if_icmp .eq 5, 3, [], [7]) := by decide +kernel
theorem bf269_1732 : am_fetch (am_mth 269) 1732 = some (.iconst 0, 1, [], [0, 1, 2, 3, 4, 5, 6, 7]) := by decide +kernel
theorem bf269_1733 : am_fetch (am_mth 269) 1733 = some (.ireturn, 1, [1], [0, 1, 2, 3, 4, 5, 6, 7]) := by decide +kernel
theorem bf269_1734 : am_fetch (am_mth 269) 1734 = some (.iload 5, 2, [], [7]) := by decide +kernel
theorem bf269_1736 : am_fetch (am_mth 269) 1736 = some (.ifCond .ne 16, 3, [], [5, 7]) := by decide +kernel
theorem bf269_1739 : am_fetch (am_mth 269) 1739 = some (.aload_n 3, 1, [], [5, 7]) := by decide +kernel
theorem bf269_1740 : am_fetch (am_mth 269) 1740 = some (.getfield 13, 3, [1, 9, 0, 485], [5, 7]) := by decide +kernel
theorem bf269_1743 : am_fetch (am_mth 269) 1743 = some (.iload 6, 2, [], [5, 7]) := by decide +kernel
theorem bf269_1745 : am_fetch (am_mth 269) 1745 = some (.i2l, 1, [], [5, 6, 7]) := by decide +kernel
theorem bf269_1746 : am_fetch (am_mth 269) 1746 = some (.lcmp, 1, [], [5, 6, 7]) := by decide +kernel
theorem bf269_1747 : am_fetch (am_mth 269) 1747 = some (.ifCond .eq 5, 3, [], [5, 6, 7]) := by decide +kernel
theorem bf269_1750 : am_fetch (am_mth 269) 1750 = some (.iconst 0, 1, [], [0, 1, 2, 3, 4, 5, 6, 7]) := by decide +kernel
theorem bf269_1751 : am_fetch (am_mth 269) 1751 = some (.ireturn, 1, [1], [0, 1, 2, 3, 4, 5, 6, 7]) := by decide +kernel
theorem bf269_1752 : am_fetch (am_mth 269) 1752 = some (.goto 439, 3, [], [5, 6, 7]) := by decide +kernel
theorem bf269_1755 : am_fetch (am_mth 269) 1755 = some (.aload_n 1, 1, [], [5, 6, 7]) := by decide +kernel
theorem bf269_1756 : am_fetch (am_mth 269) 1756 = some (.aload_n 0, 1, [], [5, 6, 7]) := by decide +kernel
theorem bf269_1757 : am_fetch (am_mth 269) 1757 = some (.iload 4, 2, [], [5, 6, 7]) := by decide +kernel
theorem bf269_1759 : am_fetch (am_mth 269) 1759 = some (.iconst 1, 1, [], [5, 6, 7]) := by decide +kernel
theorem bf269_1760 : am_fetch (am_mth 269) 1760 = some (.iadd, 1, [], [5, 6, 7]) := by decide +kernel
theorem bf269_1761 : am_fetch (am_mth 269) 1761 = some (.iaload, 1, [], [5, 6, 7]) := by decide +kernel
theorem bf269_1762 : am_fetch (am_mth 269) 1762 = some (.aload_n 0, 1, [], [5, 6, 7]) := by decide +kernel
theorem bf269_1763 : am_fetch (am_mth 269) 1763 = some (.iload 4, 2, [], [5, 6, 7]) := by decide +kernel
theorem bf269_1765 : am_fetch (am_mth 269) 1765 = some (.iconst 2, 1, [], [5, 6, 7]) := by decide +kernel
theorem bf269_1766 : am_fetch (am_mth 269) 1766 = some (.iadd, 1, [], [5, 6, 7]) := by decide +kernel
theorem bf269_1767 : am_fetch (am_mth 269) 1767 = some (.iaload, 1, [], [5, 6, 7]) := by decide +kernel
theorem bf269_1768 : am_fetch (am_mth 269) 1768 = some (.aload_n 3, 1, [], [5, 6, 7]) := by decide +kernel
theorem bf269_1769 : am_fetch (am_mth 269) 1769 = some (.invokestatic 207, 3, [0, 249, 4, 1128, 1129, 45], [5, 6, 7]) := by decide +kernel
theorem bf269_1772 : am_fetch (am_mth 269) 1772 = some (.istore 5, 2, [], [5, 6, 7]) := by decide +kernel
theorem bf269_1774 : am_fetch (am_mth 269) 1774 = some (.aload_n 2, 1, [], [6, 7]) := by decide +kernel
theorem bf269_1775 : am_fetch (am_mth 269) 1775 = some (.aload_n 0, 1, [], [6, 7]) := by decide +kernel
theorem bf269_1776 : am_fetch (am_mth 269) 1776 = some (.iload 4, 2, [], [6, 7]) := by decide +kernel
theorem bf269_1778 : am_fetch (am_mth 269) 1778 = some (.iconst 1, 1, [], [6, 7]) := by decide +kernel
theorem bf269_1779 : am_fetch (am_mth 269) 1779 = some (.iadd, 1, [], [6, 7]) := by decide +kernel
theorem bf269_1780 : am_fetch (am_mth 269) 1780 = some (.iaload, 1, [], [6, 7]) := by decide +kernel
theorem bf269_1781 : am_fetch (am_mth 269) 1781 = some (.aload_n 0, 1, [], [6, 7]) := by decide +kernel
theorem bf269_1782 : am_fetch (am_mth 269) 1782 = some (.iload 4, 2, [], [6, 7]) := by decide +kernel
theorem bf269_1784 : am_fetch (am_mth 269) 1784 = some (.iconst 2, 1, [], [6, 7]) := by decide +kernel
theorem bf269_1785 : am_fetch (am_mth 269) 1785 = some (.iadd, 1, [], [6, 7]) := by decide +kernel
theorem bf269_1786 : am_fetch (am_mth 269) 1786 = some (.iaload, 1, [], [6, 7]) := by decide +kernel
theorem bf269_1787 : am_fetch (am_mth 269) 1787 = some (.invokevirtual 209, 3, [0, 264, 2, 11, 1640, 1641, 1642, 48], [6, 7]) := by decide +kernel
theorem bf269_1790 : am_fetch (am_mth 269) 1790 = some (.istore 6, 2, [], [6, 7]) := by decide +kernel
theorem bf269_1792 : am_fetch (am_mth 269) 1792 = some (.aload_n 2, 1, [], [7]) := by decide +kernel
theorem bf269_1793 : am_fetch (am_mth 269) 1793 = some (.invokevirtual 130, 3, [0, 266, 0, 11, 1234, 1235, 1236, 48], [7]) := by decide +kernel
theorem bf269_1796 : am_fetch (am_mth 269) 1796 = some (.iload 5, 2, [], [7]) := by decide +kernel
theorem bf269_1798 : am_fetch (am_mth 269) 1798 = some (.if_icmp .eq 5, 3, [], [7]) := by decide +kernel
theorem bf269_1801 : am_fetch (am_mth 269) 1801 = some (.iconst 0, 1, [], [0, 1, 2, 3, 4, 5, 6, 7]) := by decide +kernel
theorem bf269_1802 : am_fetch (am_mth 269) 1802 = some (.ireturn, 1, [1], [0, 1, 2, 3, 4, 5, 6, 7]) := by decide +kernel
theorem bf269_1803 : am_fetch (am_mth 269) 1803 = some (.iload 5, 2, [], [7]) := by decide +kernel
theorem bf269_1805 : am_fetch (am_mth 269) 1805 = some (.ifCond .ne 16, 3, [], [5, 7]) := by decide +kernel
theorem bf269_1808 : am_fetch (am_mth 269) 1808 = some (.aload_n 3, 1, [], [5, 7]) := by decide +kernel
theorem bf269_1809 : am_fetch (am_mth 269) 1809 = some (.getfield 13, 3, [1, 9, 0, 485], [5, 7]) := by decide +kernel
theorem bf269_1812 : am_fetch (am_mth 269) 1812 = some (.iload 6, 2, [], [5, 7]) := by decide +kernel
theorem bf269_1814 : am_fetch (am_mth 269) 1814 = some (.i2l, 1, [], [5, 6, 7]) := by decide +kernel
theorem bf269_1815 : am_fetch (am_mth 269) 1815 = some (.lcmp, 1, [], [5, 6, 7]) := by decide +kernel
theorem bf269_1816 : am_fetch (am_mth 269) 1816 = some (.ifCond .eq 5, 3, [], [5, 6, 7]) := by decide +kernel
theorem bf269_1819 : am_fetch (am_mth 269) 1819 = some (.iconst 0, 1, [], [0, 1, 2, 3, 4, 5, 6, 7]) := by decide +kernel
theorem bf269_1820 : am_fetch (am_mth 269) 1820 = some (.ireturn, 1, [1], [0, 1, 2, 3, 4, 5, 6, 7]) := by decide +kernel
theorem bf269_1821 : am_fetch (am_mth 269) 1821 = some (.goto 370, 3, [], [5, 6, 7]) := by decide +kernel
theorem bf269_1824 : am_fetch (am_mth 269) 1824 = some (.aload_n 1, 1, [], [5, 6, 7]) := by decide +kernel
theorem bf269_1825 : am_fetch (am_mth 269) 1825 = some (.aload_n 0, 1, [], [5, 6, 7]) := by decide +kernel
theorem bf269_1826 : am_fetch (am_mth 269) 1826 = some (.iload 4, 2, [], [5, 6, 7]) := by decide +kernel
theorem bf269_1828 : am_fetch (am_mth 269) 1828 = some (.iconst 1, 1, [], [5, 6, 7]) := by decide +kernel
theorem bf269_1829 : am_fetch (am_mth 269) 1829 = some (.iadd, 1, [], [5, 6, 7]) := by decide +kernel
theorem bf269_1830 : am_fetch (am_mth 269) 1830 = some (.iaload, 1, [], [5, 6, 7]) := by decide +kernel
theorem bf269_1831 : am_fetch (am_mth 269) 1831 = some (.aload_n 3, 1, [], [5, 6, 7]) := by decide +kernel
theorem bf269_1832 : am_fetch (am_mth 269) 1832 = some (.invokestatic 210, 3, [0, 148, 3, 1132, 1133, 45], [5, 6, 7]) := by decide +kernel
theorem bf269_1835 : am_fetch (am_mth 269) 1835 = some (.istore 5, 2, [], [5, 6, 7]) := by decide +kernel
theorem bf269_1837 : am_fetch (am_mth 269) 1837 = some (.aload_n 2, 1, [], [6, 7]) := by decide +kernel
theorem bf269_1838 : am_fetch (am_mth 269) 1838 = some (.aload_n 0, 1, [], [6, 7]) := by decide +kernel
theorem bf269_1839 : am_fetch (am_mth 269) 1839 = some (.iload 4, 2, [], [6, 7]) := by decide +kernel
theorem bf269_1841 : am_fetch (am_mth 269) 1841 = some (.iconst 1, 1, [], [6, 7]) := by decide +kernel
theorem bf269_1842 : am_fetch (am_mth 269) 1842 = some (.iadd, 1, [], [6, 7]) := by decide +kernel
theorem bf269_1843 : am_fetch (am_mth 269) 1843 = some (.iaload, 1, [], [6, 7]) := by decide +kernel
theorem bf269_1844 : am_fetch (am_mth 269) 1844 = some (.invokevirtual 212, 3, [0, 185, 1, 11, 1652, 1653, 1654, 48], [6, 7]) := by decide +kernel
theorem bf269_1847 : am_fetch (am_mth 269) 1847 = some (.dstore 6, 2, [], [6, 7]) := by decide +kernel
theorem bf269_1849 : am_fetch (am_mth 269) 1849 = some (.aload_n 2, 1, [], [7]) := by decide +kernel
theorem bf269_1850 : am_fetch (am_mth 269) 1850 = some (.invokevirtual 130, 3, [0, 266, 0, 11, 1234, 1235, 1236, 48], [7]) := by decide +kernel
theorem bf269_1853 : am_fetch (am_mth 269) 1853 = some (.iload 5, 2, [], [7]) := by decide +kernel
theorem bf269_1855 : am_fetch (am_mth 269) 1855 = some (.if_icmp .eq 5, 3, [], [7]) := by decide +kernel
theorem bf269_1858 : am_fetch (am_mth 269) 1858 = some (.iconst 0, 1, [], [0, 1, 2, 3, 4, 5, 6, 7]) := by decide +kernel
theorem bf269_1859 : am_fetch (am_mth 269) 1859 = some (.ireturn, 1, [1], [0, 1, 2, 3, 4, 5, 6, 7]) := by decide +kernel
theorem bf269_1860 : am_fetch (am_mth 269) 1860 = some (.iload 5, 2, [], [7]) := by decide +kernel
theorem bf269_1862 : am_fetch (am_mth 269) 1862 = some (.ifCond .ne 35, 3, [], [5, 7]) := by decide +kernel
theorem bf269_1865 : am_fetch (am_mth 269) 1865 = some (.aload_n 3, 1, [], [5, 7]) := by decide +kernel
theorem bf269_1866 : am_fetch (am_mth 269) 1866 = some (.getfield 103, 3, [1, 9, 1, 486], [5, 7]) := by decide +kernel
theorem bf269_1869 : am_fetch (am_mth 269) 1869 = some (.dload 6, 2, [], [5, 7]) := by decide +kernel
theorem bf269_1871 : am_fetch (am_mth 269) 1871 = some (.dcmp .l, 1, [], [5, 7]) := by decide +kernel
theorem bf269_1872 : am_fetch (am_mth 269) 1872 = some (.ifCond .eq 25, 3, [], [5, 7]) := by decide +kernel
theorem bf269_1875 : am_fetch (am_mth 269) 1875 = some (.aload_n 3, 1, [], [5, 7]) := by decide +kernel
theorem bf269_1876 : am_fetch (am_mth 269) 1876 = some (.getfield 103, 3, [1, 9, 1, 486], [5, 7]) := by decide +kernel
theorem bf269_1879 : am_fetch (am_mth 269) 1879 = some (.aload_n 3, 1, [], [5, 7]) := by decide +kernel
theorem bf269_1880 : am_fetch (am_mth 269) 1880 = some (.getfield 103, 3, [1, 9, 1, 486], [5, 7]) := by decide +kernel
theorem bf269_1883 : am_fetch (am_mth 269) 1883 = some (.dcmp .l, 1, [], [5, 7]) := by decide +kernel
theorem bf269_1884 : am_fetch (am_mth 269) 1884 = some (.ifCond .eq 11, 3, [], [5, 7]) := by decide +kernel
theorem bf269_1887 : am_fetch (am_mth 269) 1887 = some (.dload 6, 2, [], [5, 7]) := by decide +kernel
theorem bf269_1889 : am_fetch (am_mth 269) 1889 = some (.dload 6, 2, [], [5, 7]) := by decide +kernel
theorem bf269_1891 : am_fetch (am_mth 269) 1891 = some (.dcmp .l, 1, [], [5, 6, 7]) := by decide +kernel
theorem bf269_1892 : am_fetch (am_mth 269) 1892 = some (.ifCond .ne 5, 3, [], [5, 6, 7]) := by decide +kernel
theorem bf269_1895 : am_fetch (am_mth 269) 1895 = some (.iconst 0, 1, [], [0, 1, 2, 3, 4, 5, 6, 7]) := by decide +kernel
theorem bf269_1896 : am_fetch (am_mth 269) 1896 = some (.ireturn, 1, [1], [0, 1, 2, 3, 4, 5, 6, 7]) := by decide +kernel
theorem bf269_1897 : am_fetch (am_mth 269) 1897 = some (.goto 294, 3, [], [5, 6, 7]) := by decide +kernel
theorem bf269_1900 : am_fetch (am_mth 269) 1900 = some (.aload_n 1, 1, [], [5, 6, 7]) := by decide +kernel
theorem bf269_1901 : am_fetch (am_mth 269) 1901 = some (.aload_n 0, 1, [], [5, 6, 7]) := by decide +kernel
theorem bf269_1902 : am_fetch (am_mth 269) 1902 = some (.iload 4, 2, [], [5, 6, 7]) := by decide +kernel
theorem bf269_1904 : am_fetch (am_mth 269) 1904 = some (.iconst 1, 1, [], [5, 6, 7]) := by decide +kernel
theorem bf269_1905 : am_fetch (am_mth 269) 1905 = some (.iadd, 1, [], [5, 6, 7]) := by decide +kernel
theorem bf269_1906 : am_fetch (am_mth 269) 1906 = some (.iaload, 1, [], [5, 6, 7]) := by decide +kernel
theorem bf269_1907 : am_fetch (am_mth 269) 1907 = some (.aload_n 0, 1, [], [5, 6, 7]) := by decide +kernel
theorem bf269_1908 : am_fetch (am_mth 269) 1908 = some (.iload 4, 2, [], [5, 6, 7]) := by decide +kernel
theorem bf269_1910 : am_fetch (am_mth 269) 1910 = some (.iconst 2, 1, [], [5, 6, 7]) := by decide +kernel
theorem bf269_1911 : am_fetch (am_mth 269) 1911 = some (.iadd, 1, [], [5, 6, 7]) := by decide +kernel
theorem bf269_1912 : am_fetch (am_mth 269) 1912 = some (.iaload, 1, [], [5, 6, 7]) := by decide +kernel
theorem bf269_1913 : am_fetch (am_mth 269) 1913 = some (.aload_n 3, 1, [], [5, 6, 7]) := by decide +kernel
theorem bf269_1914 : am_fetch (am_mth 269) 1914 = some (.invokestatic 213, 3, [0, 235, 4, 1136, 1137, 45], [5, 6, 7]) := by decide +kernel
theorem bf269_1917 : am_fetch (am_mth 269) 1917 = some (.istore 5, 2, [], [5, 6, 7]) := by decide +kernel
theorem bf269_1919 : am_fetch (am_mth 269) 1919 = some (.aload_n 2, 1, [], [6, 7]) := by decide +kernel
theorem bf269_1920 : am_fetch (am_mth 269) 1920 = some (.aload_n 0, 1, [], [6, 7]) := by decide +kernel
theorem bf269_1921 : am_fetch (am_mth 269) 1921 = some (.iload 4, 2, [], [6, 7]) := by decide +kernel
theorem bf269_1923 : am_fetch (am_mth 269) 1923 = some (.iconst 1, 1, [], [6, 7]) := by decide +kernel
theorem bf269_1924 : am_fetch (am_mth 269) 1924 = some (.iadd, 1, [], [6, 7]) := by decide +kernel
theorem bf269_1925 : am_fetch (am_mth 269) 1925 = some (.iaload, 1, [], [6, 7]) := by decide +kernel
theorem bf269_1926 : am_fetch (am_mth 269) 1926 = some (.aload_n 0, 1, [], [6, 7]) := by decide +kernel
theorem bf269_1927 : am_fetch (am_mth 269) 1927 = some (.iload 4, 2, [], [6, 7]) := by decide +kernel
theorem bf269_1929 : am_fetch (am_mth 269) 1929 = some (.iconst 2, 1, [], [6, 7]) := by decide +kernel
theorem bf269_1930 : am_fetch (am_mth 269) 1930 = some (.iadd, 1, [], [6, 7]) := by decide +kernel
theorem bf269_1931 : am_fetch (am_mth 269) 1931 = some (.iaload, 1, [], [6, 7]) := by decide +kernel
theorem bf269_1932 : am_fetch (am_mth 269) 1932 = some (.invokevirtual 215, 3, [0, 247, 2, 11, 1661, 1662, 1663, 48], [6, 7]) := by decide +kernel
theorem bf269_1935 : am_fetch (am_mth 269) 1935 = some (.istore 6, 2, [], [6, 7]) := by decide +kernel
theorem bf269_1937 : am_fetch (am_mth 269) 1937 = some (.aload_n 2, 1, [], [7]) := by decide +kernel
theorem bf269_1938 : am_fetch (am_mth 269) 1938 = some (.invokevirtual 130, 3, [0, 266, 0, 11, 1234, 1235, 1236, 48], [7]) := by decide +kernel
theorem bf269_1941 : am_fetch (am_mth 269) 1941 = some (.iload 5, 2, [], [7]) := by decide +kernel
theorem bf269_1943 : am_fetch (am_mth 269) 1943 = some (.if_icmp .eq 5, 3, [], [7]) := by decide +kernel
theorem bf269_1946 : am_fetch (am_mth 269) 1946 = some (.iconst 0, 1, [], [0, 1, 2, 3, 4, 5, 6, 7]) := by decide +kernel
theorem bf269_1947 : am_fetch (am_mth 269) 1947 = some (.ireturn, 1, [1], [0, 1, 2, 3, 4, 5, 6, 7]) := by decide +kernel
theorem bf269_1948 : am_fetch (am_mth 269) 1948 = some (.iload 5, 2, [], [7]) := by decide +kernel
theorem bf269_1950 : am_fetch (am_mth 269) 1950 = some (.ifCond .ne 16, 3, [], [5, 7]) := by decide +kernel
theorem bf269_1953 : am_fetch (am_mth 269) 1953 = some (.aload_n 3, 1, [], [5, 7]) := by decide +kernel
theorem bf269_1954 : am_fetch (am_mth 269) 1954 = some (.getfield 13, 3, [1, 9, 0, 485], [5, 7]) := by decide +kernel
theorem bf269_1957 : am_fetch (am_mth 269) 1957 = some (.iload 6, 2, [], [5, 7]) := by decide +kernel
theorem bf269_1959 : am_fetch (am_mth 269) 1959 = some (.i2l, 1, [], [5, 6, 7]) := by decide +kernel
theorem bf269_1960 : am_fetch (am_mth 269) 1960 = some (.lcmp, 1, [], [5, 6, 7]) := by decide +kernel
theorem bf269_1961 : am_fetch (am_mth 269) 1961 = some (.ifCond .eq 5, 3, [], [5, 6, 7]) := by decide +kernel
theorem bf269_1964 : am_fetch (am_mth 269) 1964 = some (.iconst 0, 1, [], [0, 1, 2, 3, 4, 5, 6, 7]) := by decide +kernel
theorem bf269_1965 : am_fetch (am_mth 269) 1965 = some (.ireturn, 1, [1], [0, 1, 2, 3, 4, 5, 6, 7]) := by decide +kernel
theorem bf269_1966 : am_fetch (am_mth 269) 1966 = some (.goto 225, 3, [], [5, 6, 7]) := by decide +kernel
theorem bf269_1969 : am_fetch (am_mth 269) 1969 = some (.aload_n 1, 1, [], [5, 6, 7]) := by decide +kernel
theorem bf269_1970 : am_fetch (am_mth 269) 1970 = some (.aload_n 0, 1, [], [5, 6, 7]) := by decide +kernel
theorem bf269_1971 : am_fetch (am_mth 269) 1971 = some (.iload 4, 2, [], [5, 6, 7]) := by decide +kernel
theorem bf269_1973 : am_fetch (am_mth 269) 1973 = some (.iconst 1, 1, [], [5, 6, 7]) := by decide +kernel
theorem bf269_1974 : am_fetch (am_mth 269) 1974 = some (.iadd, 1, [], [5, 6, 7]) := by decide +kernel
theorem bf269_1975 : am_fetch (am_mth 269) 1975 = some (.iaload, 1, [], [5, 6, 7]) := by decide +kernel
theorem bf269_1976 : am_fetch (am_mth 269) 1976 = some (.aload_n 3, 1, [], [5, 6, 7]) := by decide +kernel
theorem bf269_1977 : am_fetch (am_mth 269) 1977 = some (.invokestatic 216, 3, [0, 236, 3, 1140, 1141, 45], [5, 6, 7]) := by decide +kernel
theorem bf269_1980 : am_fetch (am_mth 269) 1980 = some (.istore 5, 2, [], [5, 6, 7]) := by decide +kernel
theorem bf269_1982 : am_fetch (am_mth 269) 1982 = some (.aload_n 2, 1, [], [6, 7]) := by decide +kernel
theorem bf269_1983 : am_fetch (am_mth 269) 1983 = some (.aload_n 0, 1, [], [6, 7]) := by decide +kernel
theorem bf269_1984 : am_fetch (am_mth 269) 1984 = some (.iload 4, 2, [], [6, 7]) := by decide +kernel
theorem bf269_1986 : am_fetch (am_mth 269) 1986 = some (.iconst 1, 1, [], [6, 7]) := by decide +kernel
theorem bf269_1987 : am_fetch (am_mth 269) 1987 = some (.iadd, 1, [], [6, 7]) := by decide +kernel
theorem bf269_1988 : am_fetch (am_mth 269) 1988 = some (.iaload, 1, [], [6, 7]) := by decide +kernel
theorem bf269_1989 : am_fetch (am_mth 269) 1989 = some (.invokevirtual 218, 3, [0, 252, 1, 11, 1670, 1671, 1672, 48], [6, 7]) := by decide +kernel
theorem bf269_1992 : am_fetch (am_mth 269) 1992 = some (.istore 6, 2, [], [6, 7]) := by decide +kernel
theorem bf269_1994 : am_fetch (am_mth 269) 1994 = some (.aload_n 2, 1, [], [7]) := by decide +kernel
theorem bf269_1995 : am_fetch (am_mth 269) 1995 = some (.invokevirtual 130, 3, [0, 266, 0, 11, 1234, 1235, 1236, 48], [7]) := by decide +kernel
theorem bf269_1998 : am_fetch (am_mth 269) 1998 = some (.iload 5, 2, [], [7]) := by decide +kernel
theorem bf269_2000 : am_fetch (am_mth 269) 2000 = some (.if_icmp .eq 5, 3, [], [7]) := by decide +kernel
theorem bf269_2003 : am_fetch (am_mth 269) 2003 = some (.iconst 0, 1, [], [0, 1, 2, 3, 4, 5, 6, 7]) := by decide +kernel
theorem bf269_2004 : am_fetch (am_mth 269) 2004 = some (.ireturn, 1, [1], [0, 1, 2, 3, 4, 5, 6, 7]) := by decide +kernel
theorem bf269_2005 : am_fetch (am_mth 269) 2005 = some (.iload 5, 2, [], [7]) := by decide +kernel
theorem bf269_2007 : am_fetch (am_mth 269) 2007 = some (.ifCond .ne 16, 3, [], [5, 7]) := by decide +kernel
theorem bf269_2010 : am_fetch (am_mth 269) 2010 = some (.aload_n 3, 1, [], [5, 7]) := by decide +kernel
theorem bf269_2011 : am_fetch (am_mth 269) 2011 = some (.getfield 13, 3, [1, 9, 0, 485], [5, 7]) := by decide +kernel
theorem bf269_2014 : am_fetch (am_mth 269) 2014 = some (.iload 6, 2, [], [5, 7]) := by decide +kernel
theorem bf269_2016 : am_fetch (am_mth 269) 2016 = some (.i2l, 1, [], [5, 6, 7]) := by decide +kernel
theorem bf269_2017 : am_fetch (am_mth 269) 2017 = some (.lcmp, 1, [], [5, 6, 7]) := by decide +kernel
theorem bf269_2018 : am_fetch (am_mth 269) 2018 = some (.ifCond .eq 5, 3, [], [5, 6, 7]) := by decide +kernel
theorem bf269_2021 : am_fetch (am_mth 269) 2021 = some (.iconst 0, 1, [], [0, 1, 2, 3, 4, 5, 6, 7]) := by decide +kernel
theorem bf269_2022 : am_fetch (am_mth 269) 2022 = some (.ireturn, 1, [1], [0, 1, 2, 3, 4, 5, 6, 7]) := by decide +kernel
theorem bf269_2023 : am_fetch (am_mth 269) 2023 = some (.goto 168, 3, [], [5, 6, 7]) := by decide +kernel
theorem bf269_2026 : am_fetch (am_mth 269) 2026 = some (.aload_n 1, 1, [], [5, 6, 7]) := by decide +kernel
theorem bf269_2027 : am_fetch (am_mth 269) 2027 = some (.aload_n 0, 1, [], [5, 6, 7]) := by decide +kernel
theorem bf269_2028 : am_fetch (am_mth 269) 2028 = some (.iload 4, 2, [], [5, 6, 7]) := by decide +kernel
theorem bf269_2030 : am_fetch (am_mth 269) 2030 = some (.iconst 1, 1, [], [5, 6, 7]) := by decide +kernel
theorem bf269_2031 : am_fetch (am_mth 269) 2031 = some (.iadd, 1, [], [5, 6, 7]) := by decide +kernel
theorem bf269_2032 : am_fetch (am_mth 269) 2032 = some (.iaload, 1, [], [5, 6, 7]) := by decide +kernel
theorem bf269_2033 : am_fetch (am_mth 269) 2033 = some (.aload_n 0, 1, [], [5, 6, 7]) := by decide +kernel
theorem bf269_2034 : am_fetch (am_mth 269) 2034 = some (.iload 4, 2, [], [5, 6, 7]) := by decide +kernel
theorem bf269_2036 : am_fetch (am_mth 269) 2036 = some (.iconst 2, 1, [], [5, 6, 7]) := by decide +kernel
theorem bf269_2037 : am_fetch (am_mth 269) 2037 = some (.iadd, 1, [], [5, 6, 7]) := by decide +kernel
theorem bf269_2038 : am_fetch (am_mth 269) 2038 = some (.iaload, 1, [], [5, 6, 7]) := by decide +kernel
theorem bf269_2039 : am_fetch (am_mth 269) 2039 = some (.aload_n 3, 1, [], [5, 6, 7]) := by decide +kernel
theorem bf269_2040 : am_fetch (am_mth 269) 2040 = some (.invokestatic 219, 3, [0, 220, 4, 1144, 1145, 45], [5, 6, 7]) := by decide +kernel
theorem bf269_2043 : am_fetch (am_mth 269) 2043 = some (.istore 5, 2, [], [5, 6, 7]) := by decide +kernel
theorem bf269_2045 : am_fetch (am_mth 269) 2045 = some (.aload_n 2, 1, [], [6, 7]) := by decide +kernel
theorem bf269_2046 : am_fetch (am_mth 269) 2046 = some (.aload_n 0, 1, [], [6, 7]) := by decide +kernel
theorem bf269_2047 : am_fetch (am_mth 269) 2047 = some (.iload 4, 2, [], [6, 7]) := by decide +kernel
theorem bf269_2049 : am_fetch (am_mth 269) 2049 = some (.iconst 1, 1, [], [6, 7]) := by decide +kernel
theorem bf269_2050 : am_fetch (am_mth 269) 2050 = some (.iadd, 1, [], [6, 7]) := by decide +kernel
theorem bf269_2051 : am_fetch (am_mth 269) 2051 = some (.iaload, 1, [], [6, 7]) := by decide +kernel
theorem bf269_2052 : am_fetch (am_mth 269) 2052 = some (.aload_n 0, 1, [], [6, 7]) := by decide +kernel
theorem bf269_2053 : am_fetch (am_mth 269) 2053 = some (.iload 4, 2, [], [6, 7]) := by decide +kernel
theorem bf269_2055 : am_fetch (am_mth 269) 2055 = some (.iconst 2, 1, [], [6, 7]) := by decide +kernel
theorem bf269_2056 : am_fetch (am_mth 269) 2056 = some (.iadd, 1, [], [6, 7]) := by decide +kernel
theorem bf269_2057 : am_fetch (am_mth 269) 2057 = some (.iaload, 1, [], [6, 7]) := by decide +kernel
theorem bf269_2058 : am_fetch (am_mth 269) 2058 = some (.invokevirtual 221, 3, [0, 231, 2, 11, 1678, 1679, 1680, 48], [6, 7]) := by decide +kernel
theorem bf269_2061 : am_fetch (am_mth 269) 2061 = some (.istore 6, 2, [], [6, 7]) := by decide +kernel
theorem bf269_2063 : am_fetch (am_mth 269) 2063 = some (.aload_n 2, 1, [], [7]) := by decide +kernel
theorem bf269_2064 : am_fetch (am_mth 269) 2064 = some (.invokevirtual 130, 3, [0, 266, 0, 11, 1234, 1235, 1236, 48], [7]) := by decide +kernel
theorem bf269_2067 : am_fetch (am_mth 269) 2067 = some (.iload 5, 2, [], [7]) := by decide +kernel
theorem bf269_2069 : am_fetch (am_mth 269) 2069 = some (.if_icmp .eq 5, 3, [], [7]) := by decide +kernel
theorem bf269_2072 : am_fetch (am_mth 269) 2072 = some (.iconst 0, 1, [], [0, 1, 2, 3, 4, 5, 6, 7]) := by decide +kernel
theorem bf269_2073 : am_fetch (am_mth 269) 2073 = some (.ireturn, 1, [1], [0, 1, 2, 3, 4, 5, 6, 7]) := by decide +kernel
theorem bf269_2074 : am_fetch (am_mth 269) 2074 = some (.iload 5, 2, [], [7]) := by decide +kernel
theorem bf269_2076 : am_fetch (am_mth 269) 2076 = some (.ifCond .ne 16, 3, [], [5, 7]) := by decide +kernel
theorem bf269_2079 : am_fetch (am_mth 269) 2079 = some (.aload_n 3, 1, [], [5, 7]) := by decide +kernel
theorem bf269_2080 : am_fetch (am_mth 269) 2080 = some (.getfield 13, 3, [1, 9, 0, 485], [5, 7]) := by decide +kernel
theorem bf269_2083 : am_fetch (am_mth 269) 2083 = some (.iload 6, 2, [], [5, 7]) := by decide +kernel
theorem bf269_2085 : am_fetch (am_mth 269) 2085 = some (.i2l, 1, [], [5, 6, 7]) := by decide +kernel
theorem bf269_2086 : am_fetch (am_mth 269) 2086 = some (.lcmp, 1, [], [5, 6, 7]) := by decide +kernel
theorem bf269_2087 : am_fetch (am_mth 269) 2087 = some (.ifCond .eq 5, 3, [], [5, 6, 7]) := by decide +kernel
theorem bf269_2090 : am_fetch (am_mth 269) 2090 = some (.iconst 0, 1, [], [0, 1, 2, 3, 4, 5, 6, 7]) := by decide +kernel
theorem bf269_2091 : am_fetch (am_mth 269) 2091 = some (.ireturn, 1, [1], [0, 1, 2, 3, 4, 5, 6, 7]) := by decide +kernel
theorem bf269_2092 : am_fetch (am_mth 269) 2092 = some (.goto 99, 3, [], [5, 6, 7]) := by decide +kernel
theorem bf269_2095 : am_fetch (am_mth 269) 2095 = some (.aload_n 1, 1, [], [5, 6, 7]) := by decide +kernel
theorem bf269_2096 : am_fetch (am_mth 269) 2096 = some (.aload_n 0, 1, [], [5, 6, 7]) := by decide +kernel
theorem bf269_2097 : am_fetch (am_mth 269) 2097 = some (.iload 4, 2, [], [5, 6, 7]) := by decide +kernel
theorem bf269_2099 : am_fetch (am_mth 269) 2099 = some (.iconst 1, 1, [], [5, 6, 7]) := by decide +kernel
theorem bf269_2100 : am_fetch (am_mth 269) 2100 = some (.iadd, 1, [], [5, 6, 7]) := by decide +kernel
theorem bf269_2101 : am_fetch (am_mth 269) 2101 = some (.iaload, 1, [], [5, 6, 7]) := by decide +kernel
theorem bf269_2102 : am_fetch (am_mth 269) 2102 = some (.aload_n 0, 1, [], [5, 6, 7]) := by decide +kernel
theorem bf269_2103 : am_fetch (am_mth 269) 2103 = some (.iload 4, 2, [], [5, 6, 7]) := by decide +kernel
theorem bf269_2105 : am_fetch (am_mth 269) 2105 = some (.iconst 2, 1, [], [5, 6, 7]) := by decide +kernel
theorem bf269_2106 : am_fetch (am_mth 269) 2106 = some (.iadd, 1, [], [5, 6, 7]) := by decide +kernel
theorem bf269_2107 : am_fetch (am_mth 269) 2107 = some (.iaload, 1, [], [5, 6, 7]) := by decide +kernel
theorem bf269_2108 : am_fetch (am_mth 269) 2108 = some (.aload_n 3, 1, [], [5, 6, 7]) := by decide +kernel
theorem bf269_2109 : am_fetch (am_mth 269) 2109 = some (.invokestatic 222, 3, [0, 237, 4, 1152, 1153, 45], [5, 6, 7]) := by decide +kernel
theorem bf269_2112 : am_fetch (am_mth 269) 2112 = some (.istore 5, 2, [], [5, 6, 7]) := by decide +kernel
theorem bf269_2114 : am_fetch (am_mth 269) 2114 = some (.aload_n 2, 1, [], [6, 7]) := by decide +kernel
theorem bf269_2115 : am_fetch (am_mth 269) 2115 = some (.aload_n 0, 1, [], [6, 7]) := by decide +kernel
theorem bf269_2116 : am_fetch (am_mth 269) 2116 = some (.iload 4, 2, [], [6, 7]) := by decide +kernel
theorem bf269_2118 : am_fetch (am_mth 269) 2118 = some (.iconst 1, 1, [], [6, 7]) := by decide +kernel
theorem bf269_2119 : am_fetch (am_mth 269) 2119 = some (.iadd, 1, [], [6, 7]) := by decide +kernel
theorem bf269_2120 : am_fetch (am_mth 269) 2120 = some (.iaload, 1, [], [6, 7]) := by decide +kernel
theorem bf269_2121 : am_fetch (am_mth 269) 2121 = some (.aload_n 0, 1, [], [6, 7]) := by decide +kernel
theorem bf269_2122 : am_fetch (am_mth 269) 2122 = some (.iload 4, 2, [], [6, 7]) := by decide +kernel
theorem bf269_2124 : am_fetch (am_mth 269) 2124 = some (.iconst 2, 1, [], [6, 7]) := by decide +kernel
theorem bf269_2125 : am_fetch (am_mth 269) 2125 = some (.iadd, 1, [], [6, 7]) := by decide +kernel
theorem bf269_2126 : am_fetch (am_mth 269) 2126 = some (.iaload, 1, [], [6, 7]) := by decide +kernel
theorem bf269_2127 : am_fetch (am_mth 269) 2127 = some (.invokevirtual 224, 3, [0, 232, 2, 11, 1682, 1683, 1684, 48], [6, 7]) := by decide +kernel
theorem bf269_2130 : am_fetch (am_mth 269) 2130 = some (.istore 6, 2, [], [6, 7]) := by decide +kernel
theorem bf269_2132 : am_fetch (am_mth 269) 2132 = some (.aload_n 2, 1, [], [7]) := by decide +kernel
theorem bf269_2133 : am_fetch (am_mth 269) 2133 = some (.invokevirtual 130, 3, [0, 266, 0, 11, 1234, 1235, 1236, 48], [7]) := by decide +kernel
theorem bf269_2136 : am_fetch (am_mth 269) 2136 = some (.iload 5, 2, [], [7]) := by decide +kernel
theorem bf269_2138 : am_fetch (am_mth 269) 2138 = some (.if_icmp .eq 5, 3, [], [7]) := by decide +kernel
theorem bf269_2141 : am_fetch (am_mth 269) 2141 = some (.iconst 0, 1, [], [0, 1, 2, 3, 4, 5, 6, 7]) := by decide +kernel
theorem bf269_2142 : am_fetch (am_mth 269) 2142 = some (.ireturn, 1, [1], [0, 1, 2, 3, 4, 5, 6, 7]) := by decide +kernel
theorem bf269_2143 : am_fetch (am_mth 269) 2143 = some (.iload 5, 2, [], [7]) := by decide +kernel
theorem bf269_2145 : am_fetch (am_mth 269) 2145 = some (.ifCond .ne 16, 3, [], [5, 7]) := by decide +kernel
theorem bf269_2148 : am_fetch (am_mth 269) 2148 = some (.aload_n 3, 1, [], [5, 7]) := by decide +kernel
theorem bf269_2149 : am_fetch (am_mth 269) 2149 = some (.getfield 13, 3, [1, 9, 0, 485], [5, 7]) := by decide +kernel
theorem bf269_2152 : am_fetch (am_mth 269) 2152 = some (.iload 6, 2, [], [5, 7]) := by decide +kernel
theorem bf269_2154 : am_fetch (am_mth 269) 2154 = some (.i2l, 1, [], [5, 6, 7]) := by decide +kernel
theorem bf269_2155 : am_fetch (am_mth 269) 2155 = some (.lcmp, 1, [], [5, 6, 7]) := by decide +kernel
theorem bf269_2156 : am_fetch (am_mth 269) 2156 = some (.ifCond .eq 5, 3, [], [5, 6, 7]) := by decide +kernel
theorem bf269_2159 : am_fetch (am_mth 269) 2159 = some (.iconst 0, 1, [], [0, 1, 2, 3, 4, 5, 6, 7]) := by decide +kernel
theorem bf269_2160 : am_fetch (am_mth 269) 2160 = some (.ireturn, 1, [1], [0, 1, 2, 3, 4, 5, 6, 7]) := by decide +kernel
theorem bf269_2161 : am_fetch (am_mth 269) 2161 = some (.goto 30, 3, [], [5, 6, 7]) := by decide +kernel
theorem bf269_2164 : am_fetch (am_mth 269) 2164 = some (.aload_n 1, 1, [], [5, 6, 7]) := by decide +kernel
theorem bf269_2165 : am_fetch (am_mth 269) 2165 = some (.invokevirtual 225, 3, [0, 224, 0, 8, 143, 144, 145, 46], [5, 6, 7]) := by decide +kernel
theorem bf269_2168 : am_fetch (am_mth 269) 2168 = some (.aload_n 2, 1, [], [5, 6, 7]) := by decide +kernel
theorem bf269_2169 : am_fetch (am_mth 269) 2169 = some (.invokevirtual 229, 3, [0, 215, 0, 11, 1686, 1687, 1688, 48], [5, 6, 7]) := by decide +kernel
theorem bf269_2172 : am_fetch (am_mth 269) 2172 = some (.if_icmp .eq 19, 3, [], [5, 6, 7]) := by decide +kernel
theorem bf269_2175 : am_fetch (am_mth 269) 2175 = some (.iconst 0, 1, [], [0, 1, 2, 3, 4, 5, 6, 7]) := by decide +kernel
theorem bf269_2176 : am_fetch (am_mth 269) 2176 = some (.ireturn, 1, [1], [0, 1, 2, 3, 4, 5, 6, 7]) := by decide +kernel
theorem bf269_2177 : am_fetch (am_mth 269) 2177 = some (.aload_n 1, 1, [], [5, 6, 7]) := by decide +kernel
theorem bf269_2178 : am_fetch (am_mth 269) 2178 = some (.invokevirtual 230, 3, [0, 250, 0, 8, 211, 212, 213, 46], [5, 6, 7]) := by decide +kernel
theorem bf269_2181 : am_fetch (am_mth 269) 2181 = some (.aload_n 2, 1, [], [5, 6, 7]) := by decide +kernel
theorem bf269_2182 : am_fetch (am_mth 269) 2182 = some (.invokevirtual 234, 3, [0, 265, 0, 11, 1694, 1695, 1696, 48], [5, 6, 7]) := by decide +kernel
theorem bf269_2185 : am_fetch (am_mth 269) 2185 = some (.lcmp, 1, [], [5, 6, 7]) := by decide +kernel
theorem bf269_2186 : am_fetch (am_mth 269) 2186 = some (.ifCond .eq 5, 3, [], [5, 6, 7]) := by decide +kernel
theorem bf269_2189 : am_fetch (am_mth 269) 2189 = some (.iconst 0, 1, [], [0, 1, 2, 3, 4, 5, 6, 7]) := by decide +kernel
theorem bf269_2190 : am_fetch (am_mth 269) 2190 = some (.ireturn, 1, [1], [0, 1, 2, 3, 4, 5, 6, 7]) := by decide +kernel
theorem bf269_2191 : am_fetch (am_mth 269) 2191 = some (.iinc 4 5, 3, [], [5, 6, 7]) := by decide +kernel
theorem bf269_2194 : am_fetch (am_mth 269) 2194 = some (.goto (-2167), 3, [], [5, 6, 7]) := by decide +kernel
theorem bf269_2197 : am_fetch (am_mth 269) 2197 = some (.iconst 1, 1, [], [0, 1, 2, 3, 4, 5, 6, 7]) := by decide +kernel
theorem bf269_2198 : am_fetch (am_mth 269) 2198 = some (.ireturn, 1, [1], [0, 1, 2, 3, 4, 5, 6, 7]) := by decide +kernel
theorem bk269_0 {w : am_Wd} {l0 : Nat} : am_run 269 0 [some (.ref l0), none, none, none, none, none, none, none] [] w = am_run 269 3 [some (.ref l0), none, none, none, none, none, none, none] (.ref w.2.1 :: []) (am_nw w (.inr (8, am_df 8 9)) 9) := by
  exact bn bf269_0 bf269_3 rfl rfl (am_ge_nw _ _ _)
theorem bk269_3 {w : am_Wd} {l0 : Nat} {s0 : Nat} : am_run 269 3 [some (.ref l0), none, none, none, none, none, none, none] [.ref s0] w = (am_x 89 [.ref s0] w).bind fun r => bct r fun v w' => am_run 269 7 [some (.ref l0), none, none, none, none, none, none, none] (v.toList ++ [.ref s0]) w' := by
  refine (bu (ls'' := [some (.ref l0), none, none, none, none, none, none, none]) (st' := [.ref s0, .ref s0]) bf269_3 bf269_4 rfl rfl).trans ?_
  exact bkS bf269_4 bf269_7 rfl (by decide +kernel) (Nat.le_of_ble_eq_true rfl) rfl (bhd rfl)
theorem bk269_7 {w : am_Wd} {l0 : Nat} {s0 : Nat} : am_run 269 7 [some (.ref l0), none, none, none, none, none, none, none] [.ref s0] w = am_run 269 11 [some (.ref l0), some (.ref s0), none, none, none, none, none, none] (.ref w.2.1 :: []) (am_nw w (.inr (11, am_df 11 12)) 12) := by
  refine (bu (ls'' := [some (.ref l0), some (.ref s0), none, none, none, none, none, none]) (st' := []) bf269_7 bf269_8 rfl rfl).trans ?_
  exact bn bf269_8 bf269_11 rfl rfl (am_ge_nw _ _ _)
theorem bk269_11 {w : am_Wd} {l0 : Nat} {l1 : Nat} {s0 : Nat} : am_run 269 11 [some (.ref l0), some (.ref l1), none, none, none, none, none, none] [.ref s0] w = (am_x 172 [.ref s0] w).bind fun r => bct r fun v w' => am_run 269 15 [some (.ref l0), some (.ref l1), none, none, none, none, none, none] (v.toList ++ [.ref s0]) w' := by
  refine (bu (ls'' := [some (.ref l0), some (.ref l1), none, none, none, none, none, none]) (st' := [.ref s0, .ref s0]) bf269_11 bf269_12 rfl rfl).trans ?_
  exact bkS bf269_12 bf269_15 rfl (by decide +kernel) (Nat.le_of_ble_eq_true rfl) rfl (bhd rfl)
theorem bk269_15 {w : am_Wd} {l0 : Nat} {l1 : Nat} {s0 : Nat} : am_run 269 15 [some (.ref l0), some (.ref l1), none, none, none, none, none, none] [.ref s0] w = am_run 269 19 [some (.ref l0), some (.ref l1), some (.ref s0), none, none, none, none, none] (.ref w.2.1 :: []) (am_nw w (.inr (9, am_df 9 3)) 3) := by
  refine (bu (ls'' := [some (.ref l0), some (.ref l1), some (.ref s0), none, none, none, none, none]) (st' := []) bf269_15 bf269_16 rfl rfl).trans ?_
  exact bn bf269_16 bf269_19 rfl rfl (am_ge_nw _ _ _)
theorem bk269_19 {w : am_Wd} {l0 : Nat} {l1 : Nat} {l2 : Nat} {s0 : Nat} : am_run 269 19 [some (.ref l0), some (.ref l1), some (.ref l2), none, none, none, none, none] [.ref s0] w = (am_x 35 [.ref s0] w).bind fun r => bct r fun v w' => am_run 269 23 [some (.ref l0), some (.ref l1), some (.ref l2), none, none, none, none, none] (v.toList ++ [.ref s0]) w' := by
  refine (bu (ls'' := [some (.ref l0), some (.ref l1), some (.ref l2), none, none, none, none, none]) (st' := [.ref s0, .ref s0]) bf269_19 bf269_20 rfl rfl).trans ?_
  exact bkS bf269_20 bf269_23 rfl (by decide +kernel) (Nat.le_of_ble_eq_true rfl) rfl (bhd rfl)
theorem bk269_23 {w : am_Wd} {l0 : Nat} {l1 : Nat} {l2 : Nat} {s0 : Nat} : am_run 269 23 [some (.ref l0), some (.ref l1), some (.ref l2), none, none, none, none, none] [.ref s0] w = am_run 269 27 [some (.ref l0), some (.ref l1), some (.ref l2), some (.ref s0), some (.int (nI 0)), none, none, none] [] w := by
  refine (bu (ls'' := [some (.ref l0), some (.ref l1), some (.ref l2), some (.ref s0), none, none, none, none]) (st' := []) bf269_23 bf269_24 rfl rfl).trans ?_
  refine (bu (ls'' := [some (.ref l0), some (.ref l1), some (.ref l2), some (.ref s0), none, none, none, none]) (st' := [.int (nI 0)]) bf269_24 bf269_25 rfl rfl).trans ?_
  refine (bu (ls'' := [some (.ref l0), some (.ref l1), some (.ref l2), some (.ref s0), some (.int (nI 0)), none, none, none]) (st' := []) bf269_25 bf269_27 rfl rfl).trans ?_
  rfl
theorem bk269_27 {w : am_Wd} {l0 : Nat} {l1 : Nat} {l2 : Nat} {l3 : Nat} {l4 : Int32} : am_run 269 27 [some (.ref l0), some (.ref l1), some (.ref l2), some (.ref l3), some (.int l4), none, none, none] [] w = (am_len w l0).bind fun v => am_run 269 31 [some (.ref l0), some (.ref l1), some (.ref l2), some (.ref l3), some (.int l4), none, none, none] (.int (nI v) :: [.int l4]) w := by
  refine (bu (ls'' := [some (.ref l0), some (.ref l1), some (.ref l2), some (.ref l3), some (.int l4), none, none, none]) (st' := [.int l4]) bf269_27 bf269_29 rfl rfl).trans ?_
  refine (bu (ls'' := [some (.ref l0), some (.ref l1), some (.ref l2), some (.ref l3), some (.int l4), none, none, none]) (st' := [.ref l0, .int l4]) bf269_29 bf269_30 rfl rfl).trans ?_
  exact bh bf269_30 bf269_31 rfl (fun _ _ => am_ge_rf w) rfl
theorem bk269_31 {w : am_Wd} {l0 : Nat} {l1 : Nat} {l2 : Nat} {l3 : Nat} {l4 : Int32} {s0 : Int32} {s1 : Int32} : am_run 269 31 [some (.ref l0), some (.ref l1), some (.ref l2), some (.ref l3), some (.int l4), none, none, none] [.int s0, .int s1] w = if (s0 - (nI 5)) < s1 then am_run 269 2197 [none, none, none, none, none, none, none, none] [] w else am_run 269 36 [some (.ref l0), some (.ref l1), some (.ref l2), some (.ref l3), some (.int l4), none, none, none] [] w := by
  refine (bu (ls'' := [some (.ref l0), some (.ref l1), some (.ref l2), some (.ref l3), some (.int l4), none, none, none]) (st' := [.int (nI 5), .int s0, .int s1]) bf269_31 bf269_32 rfl rfl).trans ?_
  refine (bu (ls'' := [some (.ref l0), some (.ref l1), some (.ref l2), some (.ref l3), some (.int l4), none, none, none]) (st' := [.int (s0 - (nI 5)), .int s1]) bf269_32 bf269_33 rfl rfl).trans ?_
  exact bic bf269_33 rfl bf269_2197 bf269_36 rfl rfl rfl
theorem bk269_2197 {w : am_Wd}  : am_run 269 2197 [none, none, none, none, none, none, none, none] [] w = some (.inl (some (.int (nI 1))), w) := by
  refine (bu (ls'' := [none, none, none, none, none, none, none, none]) (st' := [.int (nI 1)]) bf269_2197 bf269_2198 rfl rfl).trans ?_
  exact am_e2 bf269_2198 rfl (am_ge_rf w)
theorem bk269_36 {w : am_Wd} {l0 : Nat} {l1 : Nat} {l2 : Nat} {l3 : Nat} {l4 : Int32} : am_run 269 36 [some (.ref l0), some (.ref l1), some (.ref l2), some (.ref l3), some (.int l4), none, none, none] [] w = (am_ri 0 w l0 l4).bind fun v => am_run 269 40 [some (.ref l0), some (.ref l1), some (.ref l2), some (.ref l3), some (.int l4), none, none, none] (.int v :: []) w := by
  refine (bu (ls'' := [some (.ref l0), some (.ref l1), some (.ref l2), some (.ref l3), some (.int l4), none, none, none]) (st' := [.ref l0]) bf269_36 bf269_37 rfl rfl).trans ?_
  refine (bu (ls'' := [some (.ref l0), some (.ref l1), some (.ref l2), some (.ref l3), some (.int l4), none, none, none]) (st' := [.int l4, .ref l0]) bf269_37 bf269_39 rfl rfl).trans ?_
  exact bh bf269_39 bf269_40 rfl (fun _ _ => am_ge_rf w) rfl
theorem bk269_40 {w : am_Wd} {l0 : Nat} {l1 : Nat} {l2 : Nat} {l3 : Nat} {l4 : Int32} {s0 : Int32} : am_run 269 40 [some (.ref l0), some (.ref l1), some (.ref l2), some (.ref l3), some (.int l4), none, none, none] [.int s0] w = if (s0 &&& (nI 31)) = (nI 0) then am_run 269 172 [some (.ref l0), some (.ref l1), some (.ref l2), some (.ref l3), some (.int l4), none, none, none] [] w else if (s0 &&& (nI 31)) = (nI 1) then am_run 269 265 [some (.ref l0), some (.ref l1), some (.ref l2), some (.ref l3), some (.int l4), none, none, none] [] w else if (s0 &&& (nI 31)) = (nI 2) then am_run 269 322 [some (.ref l0), some (.ref l1), some (.ref l2), some (.ref l3), some (.int l4), none, none, none] [] w else if (s0 &&& (nI 31)) = (nI 3) then am_run 269 435 [some (.ref l0), some (.ref l1), some (.ref l2), some (.ref l3), some (.int l4), none, none, none] [] w else if (s0 &&& (nI 31)) = (nI 4) then am_run 269 544 [some (.ref l0), some (.ref l1), some (.ref l2), some (.ref l3), some (.int l4), none, none, none] [] w else if (s0 &&& (nI 31)) = (nI 5) then am_run 269 636 [some (.ref l0), some (.ref l1), some (.ref l2), some (.ref l3), some (.int l4), none, none, none] [] w else if (s0 &&& (nI 31)) = (nI 6) then am_run 269 749 [some (.ref l0), some (.ref l1), some (.ref l2), some (.ref l3), some (.int l4), none, none, none] [] w else if (s0 &&& (nI 31)) = (nI 7) then am_run 269 834 [some (.ref l0), some (.ref l1), some (.ref l2), some (.ref l3), some (.int l4), none, none, none] [] w else if (s0 &&& (nI 31)) = (nI 8) then am_run 269 919 [some (.ref l0), some (.ref l1), some (.ref l2), some (.ref l3), some (.int l4), none, none, none] [] w else if (s0 &&& (nI 31)) = (nI 9) then am_run 269 988 [some (.ref l0), some (.ref l1), some (.ref l2), some (.ref l3), some (.int l4), none, none, none] [] w else if (s0 &&& (nI 31)) = (nI 10) then am_run 269 1045 [some (.ref l0), some (.ref l1), some (.ref l2), some (.ref l3), some (.int l4), none, none, none] [] w else if (s0 &&& (nI 31)) = (nI 11) then am_run 269 1114 [some (.ref l0), some (.ref l1), some (.ref l2), some (.ref l3), some (.int l4), none, none, none] [] w else if (s0 &&& (nI 31)) = (nI 12) then am_run 269 1171 [some (.ref l0), some (.ref l1), some (.ref l2), some (.ref l3), some (.int l4), none, none, none] [] w else if (s0 &&& (nI 31)) = (nI 13) then am_run 269 1184 [some (.ref l0), some (.ref l1), some (.ref l2), some (.ref l3), some (.int l4), none, none, none] [] w else if (s0 &&& (nI 31)) = (nI 14) then am_run 269 1265 [some (.ref l0), some (.ref l1), some (.ref l2), some (.ref l3), some (.int l4), none, none, none] [] w else if (s0 &&& (nI 31)) = (nI 15) then am_run 269 1334 [some (.ref l0), some (.ref l1), some (.ref l2), some (.ref l3), some (.int l4), none, none, none] [] w else if (s0 &&& (nI 31)) = (nI 16) then am_run 269 1391 [some (.ref l0), some (.ref l1), some (.ref l2), some (.ref l3), some (.int l4), none, none, none] [] w else if (s0 &&& (nI 31)) = (nI 17) then am_run 269 1449 [some (.ref l0), some (.ref l1), some (.ref l2), some (.ref l3), some (.int l4), none, none, none] [] w else if (s0 &&& (nI 31)) = (nI 18) then am_run 269 1530 [some (.ref l0), some (.ref l1), some (.ref l2), some (.ref l3), some (.int l4), none, none, none] [] w else if (s0 &&& (nI 31)) = (nI 19) then am_run 269 1606 [some (.ref l0), some (.ref l1), some (.ref l2), some (.ref l3), some (.int l4), none, none, none] [] w else if (s0 &&& (nI 31)) = (nI 20) then am_run 269 1674 [some (.ref l0), some (.ref l1), some (.ref l2), some (.ref l3), some (.int l4), none, none, none] [] w else if (s0 &&& (nI 31)) = (nI 21) then am_run 269 1755 [some (.ref l0), some (.ref l1), some (.ref l2), some (.ref l3), some (.int l4), none, none, none] [] w else if (s0 &&& (nI 31)) = (nI 22) then am_run 269 1824 [some (.ref l0), some (.ref l1), some (.ref l2), some (.ref l3), some (.int l4), none, none, none] [] w else if (s0 &&& (nI 31)) = (nI 23) then am_run 269 1900 [some (.ref l0), some (.ref l1), some (.ref l2), some (.ref l3), some (.int l4), none, none, none] [] w else if (s0 &&& (nI 31)) = (nI 24) then am_run 269 1969 [some (.ref l0), some (.ref l1), some (.ref l2), some (.ref l3), some (.int l4), none, none, none] [] w else if (s0 &&& (nI 31)) = (nI 25) then am_run 269 2026 [some (.ref l0), some (.ref l1), some (.ref l2), some (.ref l3), some (.int l4), none, none, none] [] w else if (s0 &&& (nI 31)) = (nI 26) then am_run 269 2095 [some (.ref l0), some (.ref l1), some (.ref l2), some (.ref l3), some (.int l4), none, none, none] [] w else if (s0 &&& (nI 31)) = (nI 27) then am_run 269 2164 [some (.ref l0), some (.ref l1), some (.ref l2), some (.ref l3), some (.int l4), none, none, none] [] w else if (s0 &&& (nI 31)) = (nI 28) then am_run 269 2177 [some (.ref l0), some (.ref l1), some (.ref l2), some (.ref l3), some (.int l4), none, none, none] [] w else am_run 269 2191 [some (.ref l0), some (.ref l1), some (.ref l2), some (.ref l3), some (.int l4), none, none, none] [] w := by
  refine (bu (ls'' := [some (.ref l0), some (.ref l1), some (.ref l2), some (.ref l3), some (.int l4), none, none, none]) (st' := [.int (nI 31), .int s0]) bf269_40 bf269_42 rfl rfl).trans ?_
  refine (bu (ls'' := [some (.ref l0), some (.ref l1), some (.ref l2), some (.ref l3), some (.int l4), none, none, none]) (st' := [.int (s0 &&& (nI 31))]) bf269_42 bf269_43 rfl rfl).trans ?_
  refine bsw (fun q => ?_) (fun q0 => ?_)
  · exact bu (ls' := [some (.ref l0), some (.ref l1), some (.ref l2), some (.ref l3), some (.int l4), none, none, none]) (ls'' := [some (.ref l0), some (.ref l1), some (.ref l2), some (.ref l3), some (.int l4), none, none, none]) (st' := []) bf269_43 bf269_172 (by rw [q]; rfl) rfl
  refine bsw (fun q => ?_) (fun q1 => ?_)
  · exact bu (ls' := [some (.ref l0), some (.ref l1), some (.ref l2), some (.ref l3), some (.int l4), none, none, none]) (ls'' := [some (.ref l0), some (.ref l1), some (.ref l2), some (.ref l3), some (.int l4), none, none, none]) (st' := []) bf269_43 bf269_265 (by rw [q]; rfl) rfl
  refine bsw (fun q => ?_) (fun q2 => ?_)
  · exact bu (ls' := [some (.ref l0), some (.ref l1), some (.ref l2), some (.ref l3), some (.int l4), none, none, none]) (ls'' := [some (.ref l0), some (.ref l1), some (.ref l2), some (.ref l3), some (.int l4), none, none, none]) (st' := []) bf269_43 bf269_322 (by rw [q]; rfl) rfl
  refine bsw (fun q => ?_) (fun q3 => ?_)
  · exact bu (ls' := [some (.ref l0), some (.ref l1), some (.ref l2), some (.ref l3), some (.int l4), none, none, none]) (ls'' := [some (.ref l0), some (.ref l1), some (.ref l2), some (.ref l3), some (.int l4), none, none, none]) (st' := []) bf269_43 bf269_435 (by rw [q]; rfl) rfl
  refine bsw (fun q => ?_) (fun q4 => ?_)
  · exact bu (ls' := [some (.ref l0), some (.ref l1), some (.ref l2), some (.ref l3), some (.int l4), none, none, none]) (ls'' := [some (.ref l0), some (.ref l1), some (.ref l2), some (.ref l3), some (.int l4), none, none, none]) (st' := []) bf269_43 bf269_544 (by rw [q]; rfl) rfl
  refine bsw (fun q => ?_) (fun q5 => ?_)
  · exact bu (ls' := [some (.ref l0), some (.ref l1), some (.ref l2), some (.ref l3), some (.int l4), none, none, none]) (ls'' := [some (.ref l0), some (.ref l1), some (.ref l2), some (.ref l3), some (.int l4), none, none, none]) (st' := []) bf269_43 bf269_636 (by rw [q]; rfl) rfl
  refine bsw (fun q => ?_) (fun q6 => ?_)
  · exact bu (ls' := [some (.ref l0), some (.ref l1), some (.ref l2), some (.ref l3), some (.int l4), none, none, none]) (ls'' := [some (.ref l0), some (.ref l1), some (.ref l2), some (.ref l3), some (.int l4), none, none, none]) (st' := []) bf269_43 bf269_749 (by rw [q]; rfl) rfl
  refine bsw (fun q => ?_) (fun q7 => ?_)
  · exact bu (ls' := [some (.ref l0), some (.ref l1), some (.ref l2), some (.ref l3), some (.int l4), none, none, none]) (ls'' := [some (.ref l0), some (.ref l1), some (.ref l2), some (.ref l3), some (.int l4), none, none, none]) (st' := []) bf269_43 bf269_834 (by rw [q]; rfl) rfl
  refine bsw (fun q => ?_) (fun q8 => ?_)
  · exact bu (ls' := [some (.ref l0), some (.ref l1), some (.ref l2), some (.ref l3), some (.int l4), none, none, none]) (ls'' := [some (.ref l0), some (.ref l1), some (.ref l2), some (.ref l3), some (.int l4), none, none, none]) (st' := []) bf269_43 bf269_919 (by rw [q]; rfl) rfl
  refine bsw (fun q => ?_) (fun q9 => ?_)
  · exact bu (ls' := [some (.ref l0), some (.ref l1), some (.ref l2), some (.ref l3), some (.int l4), none, none, none]) (ls'' := [some (.ref l0), some (.ref l1), some (.ref l2), some (.ref l3), some (.int l4), none, none, none]) (st' := []) bf269_43 bf269_988 (by rw [q]; rfl) rfl
  refine bsw (fun q => ?_) (fun q10 => ?_)
  · exact bu (ls' := [some (.ref l0), some (.ref l1), some (.ref l2), some (.ref l3), some (.int l4), none, none, none]) (ls'' := [some (.ref l0), some (.ref l1), some (.ref l2), some (.ref l3), some (.int l4), none, none, none]) (st' := []) bf269_43 bf269_1045 (by rw [q]; rfl) rfl
  refine bsw (fun q => ?_) (fun q11 => ?_)
  · exact bu (ls' := [some (.ref l0), some (.ref l1), some (.ref l2), some (.ref l3), some (.int l4), none, none, none]) (ls'' := [some (.ref l0), some (.ref l1), some (.ref l2), some (.ref l3), some (.int l4), none, none, none]) (st' := []) bf269_43 bf269_1114 (by rw [q]; rfl) rfl
  refine bsw (fun q => ?_) (fun q12 => ?_)
  · exact bu (ls' := [some (.ref l0), some (.ref l1), some (.ref l2), some (.ref l3), some (.int l4), none, none, none]) (ls'' := [some (.ref l0), some (.ref l1), some (.ref l2), some (.ref l3), some (.int l4), none, none, none]) (st' := []) bf269_43 bf269_1171 (by rw [q]; rfl) rfl
  refine bsw (fun q => ?_) (fun q13 => ?_)
  · exact bu (ls' := [some (.ref l0), some (.ref l1), some (.ref l2), some (.ref l3), some (.int l4), none, none, none]) (ls'' := [some (.ref l0), some (.ref l1), some (.ref l2), some (.ref l3), some (.int l4), none, none, none]) (st' := []) bf269_43 bf269_1184 (by rw [q]; rfl) rfl
  refine bsw (fun q => ?_) (fun q14 => ?_)
  · exact bu (ls' := [some (.ref l0), some (.ref l1), some (.ref l2), some (.ref l3), some (.int l4), none, none, none]) (ls'' := [some (.ref l0), some (.ref l1), some (.ref l2), some (.ref l3), some (.int l4), none, none, none]) (st' := []) bf269_43 bf269_1265 (by rw [q]; rfl) rfl
  refine bsw (fun q => ?_) (fun q15 => ?_)
  · exact bu (ls' := [some (.ref l0), some (.ref l1), some (.ref l2), some (.ref l3), some (.int l4), none, none, none]) (ls'' := [some (.ref l0), some (.ref l1), some (.ref l2), some (.ref l3), some (.int l4), none, none, none]) (st' := []) bf269_43 bf269_1334 (by rw [q]; rfl) rfl
  refine bsw (fun q => ?_) (fun q16 => ?_)
  · exact bu (ls' := [some (.ref l0), some (.ref l1), some (.ref l2), some (.ref l3), some (.int l4), none, none, none]) (ls'' := [some (.ref l0), some (.ref l1), some (.ref l2), some (.ref l3), some (.int l4), none, none, none]) (st' := []) bf269_43 bf269_1391 (by rw [q]; rfl) rfl
  refine bsw (fun q => ?_) (fun q17 => ?_)
  · exact bu (ls' := [some (.ref l0), some (.ref l1), some (.ref l2), some (.ref l3), some (.int l4), none, none, none]) (ls'' := [some (.ref l0), some (.ref l1), some (.ref l2), some (.ref l3), some (.int l4), none, none, none]) (st' := []) bf269_43 bf269_1449 (by rw [q]; rfl) rfl
  refine bsw (fun q => ?_) (fun q18 => ?_)
  · exact bu (ls' := [some (.ref l0), some (.ref l1), some (.ref l2), some (.ref l3), some (.int l4), none, none, none]) (ls'' := [some (.ref l0), some (.ref l1), some (.ref l2), some (.ref l3), some (.int l4), none, none, none]) (st' := []) bf269_43 bf269_1530 (by rw [q]; rfl) rfl
  refine bsw (fun q => ?_) (fun q19 => ?_)
  · exact bu (ls' := [some (.ref l0), some (.ref l1), some (.ref l2), some (.ref l3), some (.int l4), none, none, none]) (ls'' := [some (.ref l0), some (.ref l1), some (.ref l2), some (.ref l3), some (.int l4), none, none, none]) (st' := []) bf269_43 bf269_1606 (by rw [q]; rfl) rfl
  refine bsw (fun q => ?_) (fun q20 => ?_)
  · exact bu (ls' := [some (.ref l0), some (.ref l1), some (.ref l2), some (.ref l3), some (.int l4), none, none, none]) (ls'' := [some (.ref l0), some (.ref l1), some (.ref l2), some (.ref l3), some (.int l4), none, none, none]) (st' := []) bf269_43 bf269_1674 (by rw [q]; rfl) rfl
  refine bsw (fun q => ?_) (fun q21 => ?_)
  · exact bu (ls' := [some (.ref l0), some (.ref l1), some (.ref l2), some (.ref l3), some (.int l4), none, none, none]) (ls'' := [some (.ref l0), some (.ref l1), some (.ref l2), some (.ref l3), some (.int l4), none, none, none]) (st' := []) bf269_43 bf269_1755 (by rw [q]; rfl) rfl
  refine bsw (fun q => ?_) (fun q22 => ?_)
  · exact bu (ls' := [some (.ref l0), some (.ref l1), some (.ref l2), some (.ref l3), some (.int l4), none, none, none]) (ls'' := [some (.ref l0), some (.ref l1), some (.ref l2), some (.ref l3), some (.int l4), none, none, none]) (st' := []) bf269_43 bf269_1824 (by rw [q]; rfl) rfl
  refine bsw (fun q => ?_) (fun q23 => ?_)
  · exact bu (ls' := [some (.ref l0), some (.ref l1), some (.ref l2), some (.ref l3), some (.int l4), none, none, none]) (ls'' := [some (.ref l0), some (.ref l1), some (.ref l2), some (.ref l3), some (.int l4), none, none, none]) (st' := []) bf269_43 bf269_1900 (by rw [q]; rfl) rfl
  refine bsw (fun q => ?_) (fun q24 => ?_)
  · exact bu (ls' := [some (.ref l0), some (.ref l1), some (.ref l2), some (.ref l3), some (.int l4), none, none, none]) (ls'' := [some (.ref l0), some (.ref l1), some (.ref l2), some (.ref l3), some (.int l4), none, none, none]) (st' := []) bf269_43 bf269_1969 (by rw [q]; rfl) rfl
  refine bsw (fun q => ?_) (fun q25 => ?_)
  · exact bu (ls' := [some (.ref l0), some (.ref l1), some (.ref l2), some (.ref l3), some (.int l4), none, none, none]) (ls'' := [some (.ref l0), some (.ref l1), some (.ref l2), some (.ref l3), some (.int l4), none, none, none]) (st' := []) bf269_43 bf269_2026 (by rw [q]; rfl) rfl
  refine bsw (fun q => ?_) (fun q26 => ?_)
  · exact bu (ls' := [some (.ref l0), some (.ref l1), some (.ref l2), some (.ref l3), some (.int l4), none, none, none]) (ls'' := [some (.ref l0), some (.ref l1), some (.ref l2), some (.ref l3), some (.int l4), none, none, none]) (st' := []) bf269_43 bf269_2095 (by rw [q]; rfl) rfl
  refine bsw (fun q => ?_) (fun q27 => ?_)
  · exact bu (ls' := [some (.ref l0), some (.ref l1), some (.ref l2), some (.ref l3), some (.int l4), none, none, none]) (ls'' := [some (.ref l0), some (.ref l1), some (.ref l2), some (.ref l3), some (.int l4), none, none, none]) (st' := []) bf269_43 bf269_2164 (by rw [q]; rfl) rfl
  refine bsw (fun q => ?_) (fun q28 => ?_)
  · exact bu (ls' := [some (.ref l0), some (.ref l1), some (.ref l2), some (.ref l3), some (.int l4), none, none, none]) (ls'' := [some (.ref l0), some (.ref l1), some (.ref l2), some (.ref l3), some (.int l4), none, none, none]) (st' := []) bf269_43 bf269_2177 (by rw [q]; rfl) rfl
  exact bsd bf269_43 bf269_2191 rfl rfl (bcon (by rfl) q0 (bcon (by rfl) q1 (bcon (by rfl) q2 (bcon (by rfl) q3 (bcon (by rfl) q4 (bcon (by rfl) q5 (bcon (by rfl) q6 (bcon (by rfl) q7 (bcon (by rfl) q8 (bcon (by rfl) q9 (bcon (by rfl) q10 (bcon (by rfl) q11 (bcon (by rfl) q12 (bcon (by rfl) q13 (bcon (by rfl) q14 (bcon (by rfl) q15 (bcon (by rfl) q16 (bcon (by rfl) q17 (bcon (by rfl) q18 (bcon (by rfl) q19 (bcon (by rfl) q20 (bcon (by rfl) q21 (bcon (by rfl) q22 (bcon (by rfl) q23 (bcon (by rfl) q24 (bcon (by rfl) q25 (bcon (by rfl) q26 (bcon (by rfl) q27 (bcon (by rfl) q28 (bnil)))))))))))))))))))))))))))))) rfl
theorem bk269_172 {w : am_Wd} {l0 : Nat} {l1 : Nat} {l2 : Nat} {l3 : Nat} {l4 : Int32} : am_run 269 172 [some (.ref l0), some (.ref l1), some (.ref l2), some (.ref l3), some (.int l4), none, none, none] [] w = (am_ri 0 w l0 (l4 + (nI 1))).bind fun v => am_run 269 179 [some (.ref l0), some (.ref l1), some (.ref l2), some (.ref l3), some (.int l4), none, none, none] (.int v :: [.ref l1]) w := by
  refine (bu (ls'' := [some (.ref l0), some (.ref l1), some (.ref l2), some (.ref l3), some (.int l4), none, none, none]) (st' := [.ref l1]) bf269_172 bf269_173 rfl rfl).trans ?_
  refine (bu (ls'' := [some (.ref l0), some (.ref l1), some (.ref l2), some (.ref l3), some (.int l4), none, none, none]) (st' := [.ref l0, .ref l1]) bf269_173 bf269_174 rfl rfl).trans ?_
  refine (bu (ls'' := [some (.ref l0), some (.ref l1), some (.ref l2), some (.ref l3), some (.int l4), none, none, none]) (st' := [.int l4, .ref l0, .ref l1]) bf269_174 bf269_176 rfl rfl).trans ?_
  refine (bu (ls'' := [some (.ref l0), some (.ref l1), some (.ref l2), some (.ref l3), some (.int l4), none, none, none]) (st' := [.int (nI 1), .int l4, .ref l0, .ref l1]) bf269_176 bf269_177 rfl rfl).trans ?_
  refine (bu (ls'' := [some (.ref l0), some (.ref l1), some (.ref l2), some (.ref l3), some (.int l4), none, none, none]) (st' := [.int (l4 + (nI 1)), .ref l0, .ref l1]) bf269_177 bf269_178 rfl rfl).trans ?_
  exact bh bf269_178 bf269_179 rfl (fun _ _ => am_ge_rf w) rfl
theorem bk269_265 {w : am_Wd} {l0 : Nat} {l1 : Nat} {l2 : Nat} {l3 : Nat} {l4 : Int32} : am_run 269 265 [some (.ref l0), some (.ref l1), some (.ref l2), some (.ref l3), some (.int l4), none, none, none] [] w = (am_ri 0 w l0 (l4 + (nI 1))).bind fun v => am_run 269 272 [some (.ref l0), some (.ref l1), some (.ref l2), some (.ref l3), some (.int l4), none, none, none] (.int v :: [.ref l1]) w := by
  refine (bu (ls'' := [some (.ref l0), some (.ref l1), some (.ref l2), some (.ref l3), some (.int l4), none, none, none]) (st' := [.ref l1]) bf269_265 bf269_266 rfl rfl).trans ?_
  refine (bu (ls'' := [some (.ref l0), some (.ref l1), some (.ref l2), some (.ref l3), some (.int l4), none, none, none]) (st' := [.ref l0, .ref l1]) bf269_266 bf269_267 rfl rfl).trans ?_
  refine (bu (ls'' := [some (.ref l0), some (.ref l1), some (.ref l2), some (.ref l3), some (.int l4), none, none, none]) (st' := [.int l4, .ref l0, .ref l1]) bf269_267 bf269_269 rfl rfl).trans ?_
  refine (bu (ls'' := [some (.ref l0), some (.ref l1), some (.ref l2), some (.ref l3), some (.int l4), none, none, none]) (st' := [.int (nI 1), .int l4, .ref l0, .ref l1]) bf269_269 bf269_270 rfl rfl).trans ?_
  refine (bu (ls'' := [some (.ref l0), some (.ref l1), some (.ref l2), some (.ref l3), some (.int l4), none, none, none]) (st' := [.int (l4 + (nI 1)), .ref l0, .ref l1]) bf269_270 bf269_271 rfl rfl).trans ?_
  exact bh bf269_271 bf269_272 rfl (fun _ _ => am_ge_rf w) rfl
theorem bk269_322 {w : am_Wd} {l0 : Nat} {l1 : Nat} {l2 : Nat} {l3 : Nat} {l4 : Int32} : am_run 269 322 [some (.ref l0), some (.ref l1), some (.ref l2), some (.ref l3), some (.int l4), none, none, none] [] w = (am_ri 0 w l0 (l4 + (nI 1))).bind fun v => am_run 269 329 [some (.ref l0), some (.ref l1), some (.ref l2), some (.ref l3), some (.int l4), none, none, none] (.int v :: [.ref l1]) w := by
  refine (bu (ls'' := [some (.ref l0), some (.ref l1), some (.ref l2), some (.ref l3), some (.int l4), none, none, none]) (st' := [.ref l1]) bf269_322 bf269_323 rfl rfl).trans ?_
  refine (bu (ls'' := [some (.ref l0), some (.ref l1), some (.ref l2), some (.ref l3), some (.int l4), none, none, none]) (st' := [.ref l0, .ref l1]) bf269_323 bf269_324 rfl rfl).trans ?_
  refine (bu (ls'' := [some (.ref l0), some (.ref l1), some (.ref l2), some (.ref l3), some (.int l4), none, none, none]) (st' := [.int l4, .ref l0, .ref l1]) bf269_324 bf269_326 rfl rfl).trans ?_
  refine (bu (ls'' := [some (.ref l0), some (.ref l1), some (.ref l2), some (.ref l3), some (.int l4), none, none, none]) (st' := [.int (nI 1), .int l4, .ref l0, .ref l1]) bf269_326 bf269_327 rfl rfl).trans ?_
  refine (bu (ls'' := [some (.ref l0), some (.ref l1), some (.ref l2), some (.ref l3), some (.int l4), none, none, none]) (st' := [.int (l4 + (nI 1)), .ref l0, .ref l1]) bf269_327 bf269_328 rfl rfl).trans ?_
  exact bh bf269_328 bf269_329 rfl (fun _ _ => am_ge_rf w) rfl
theorem bk269_435 {w : am_Wd} {l0 : Nat} {l1 : Nat} {l2 : Nat} {l3 : Nat} {l4 : Int32} : am_run 269 435 [some (.ref l0), some (.ref l1), some (.ref l2), some (.ref l3), some (.int l4), none, none, none] [] w = (am_ri 0 w l0 (l4 + (nI 1))).bind fun v => am_run 269 442 [some (.ref l0), some (.ref l1), some (.ref l2), some (.ref l3), some (.int l4), none, none, none] (.int v :: [.ref l1]) w := by
  refine (bu (ls'' := [some (.ref l0), some (.ref l1), some (.ref l2), some (.ref l3), some (.int l4), none, none, none]) (st' := [.ref l1]) bf269_435 bf269_436 rfl rfl).trans ?_
  refine (bu (ls'' := [some (.ref l0), some (.ref l1), some (.ref l2), some (.ref l3), some (.int l4), none, none, none]) (st' := [.ref l0, .ref l1]) bf269_436 bf269_437 rfl rfl).trans ?_
  refine (bu (ls'' := [some (.ref l0), some (.ref l1), some (.ref l2), some (.ref l3), some (.int l4), none, none, none]) (st' := [.int l4, .ref l0, .ref l1]) bf269_437 bf269_439 rfl rfl).trans ?_
  refine (bu (ls'' := [some (.ref l0), some (.ref l1), some (.ref l2), some (.ref l3), some (.int l4), none, none, none]) (st' := [.int (nI 1), .int l4, .ref l0, .ref l1]) bf269_439 bf269_440 rfl rfl).trans ?_
  refine (bu (ls'' := [some (.ref l0), some (.ref l1), some (.ref l2), some (.ref l3), some (.int l4), none, none, none]) (st' := [.int (l4 + (nI 1)), .ref l0, .ref l1]) bf269_440 bf269_441 rfl rfl).trans ?_
  exact bh bf269_441 bf269_442 rfl (fun _ _ => am_ge_rf w) rfl
theorem bk269_544 {w : am_Wd} {l0 : Nat} {l1 : Nat} {l2 : Nat} {l3 : Nat} {l4 : Int32} : am_run 269 544 [some (.ref l0), some (.ref l1), some (.ref l2), some (.ref l3), some (.int l4), none, none, none] [] w = (am_ri 0 w l0 (l4 + (nI 1))).bind fun v => am_run 269 551 [some (.ref l0), some (.ref l1), some (.ref l2), some (.ref l3), some (.int l4), none, none, none] (.int v :: [.ref l1]) w := by
  refine (bu (ls'' := [some (.ref l0), some (.ref l1), some (.ref l2), some (.ref l3), some (.int l4), none, none, none]) (st' := [.ref l1]) bf269_544 bf269_545 rfl rfl).trans ?_
  refine (bu (ls'' := [some (.ref l0), some (.ref l1), some (.ref l2), some (.ref l3), some (.int l4), none, none, none]) (st' := [.ref l0, .ref l1]) bf269_545 bf269_546 rfl rfl).trans ?_
  refine (bu (ls'' := [some (.ref l0), some (.ref l1), some (.ref l2), some (.ref l3), some (.int l4), none, none, none]) (st' := [.int l4, .ref l0, .ref l1]) bf269_546 bf269_548 rfl rfl).trans ?_
  refine (bu (ls'' := [some (.ref l0), some (.ref l1), some (.ref l2), some (.ref l3), some (.int l4), none, none, none]) (st' := [.int (nI 1), .int l4, .ref l0, .ref l1]) bf269_548 bf269_549 rfl rfl).trans ?_
  refine (bu (ls'' := [some (.ref l0), some (.ref l1), some (.ref l2), some (.ref l3), some (.int l4), none, none, none]) (st' := [.int (l4 + (nI 1)), .ref l0, .ref l1]) bf269_549 bf269_550 rfl rfl).trans ?_
  exact bh bf269_550 bf269_551 rfl (fun _ _ => am_ge_rf w) rfl
theorem bk269_636 {w : am_Wd} {l0 : Nat} {l1 : Nat} {l2 : Nat} {l3 : Nat} {l4 : Int32} : am_run 269 636 [some (.ref l0), some (.ref l1), some (.ref l2), some (.ref l3), some (.int l4), none, none, none] [] w = (am_ri 0 w l0 (l4 + (nI 1))).bind fun v => am_run 269 643 [some (.ref l0), some (.ref l1), some (.ref l2), some (.ref l3), some (.int l4), none, none, none] (.int v :: [.ref l1]) w := by
  refine (bu (ls'' := [some (.ref l0), some (.ref l1), some (.ref l2), some (.ref l3), some (.int l4), none, none, none]) (st' := [.ref l1]) bf269_636 bf269_637 rfl rfl).trans ?_
  refine (bu (ls'' := [some (.ref l0), some (.ref l1), some (.ref l2), some (.ref l3), some (.int l4), none, none, none]) (st' := [.ref l0, .ref l1]) bf269_637 bf269_638 rfl rfl).trans ?_
  refine (bu (ls'' := [some (.ref l0), some (.ref l1), some (.ref l2), some (.ref l3), some (.int l4), none, none, none]) (st' := [.int l4, .ref l0, .ref l1]) bf269_638 bf269_640 rfl rfl).trans ?_
  refine (bu (ls'' := [some (.ref l0), some (.ref l1), some (.ref l2), some (.ref l3), some (.int l4), none, none, none]) (st' := [.int (nI 1), .int l4, .ref l0, .ref l1]) bf269_640 bf269_641 rfl rfl).trans ?_
  refine (bu (ls'' := [some (.ref l0), some (.ref l1), some (.ref l2), some (.ref l3), some (.int l4), none, none, none]) (st' := [.int (l4 + (nI 1)), .ref l0, .ref l1]) bf269_641 bf269_642 rfl rfl).trans ?_
  exact bh bf269_642 bf269_643 rfl (fun _ _ => am_ge_rf w) rfl
theorem bk269_749 {w : am_Wd} {l0 : Nat} {l1 : Nat} {l2 : Nat} {l3 : Nat} {l4 : Int32} : am_run 269 749 [some (.ref l0), some (.ref l1), some (.ref l2), some (.ref l3), some (.int l4), none, none, none] [] w = (am_ri 0 w l0 (l4 + (nI 1))).bind fun v => am_run 269 756 [some (.ref l0), some (.ref l1), some (.ref l2), some (.ref l3), some (.int l4), none, none, none] (.int v :: [.ref l1]) w := by
  refine (bu (ls'' := [some (.ref l0), some (.ref l1), some (.ref l2), some (.ref l3), some (.int l4), none, none, none]) (st' := [.ref l1]) bf269_749 bf269_750 rfl rfl).trans ?_
  refine (bu (ls'' := [some (.ref l0), some (.ref l1), some (.ref l2), some (.ref l3), some (.int l4), none, none, none]) (st' := [.ref l0, .ref l1]) bf269_750 bf269_751 rfl rfl).trans ?_
  refine (bu (ls'' := [some (.ref l0), some (.ref l1), some (.ref l2), some (.ref l3), some (.int l4), none, none, none]) (st' := [.int l4, .ref l0, .ref l1]) bf269_751 bf269_753 rfl rfl).trans ?_
  refine (bu (ls'' := [some (.ref l0), some (.ref l1), some (.ref l2), some (.ref l3), some (.int l4), none, none, none]) (st' := [.int (nI 1), .int l4, .ref l0, .ref l1]) bf269_753 bf269_754 rfl rfl).trans ?_
  refine (bu (ls'' := [some (.ref l0), some (.ref l1), some (.ref l2), some (.ref l3), some (.int l4), none, none, none]) (st' := [.int (l4 + (nI 1)), .ref l0, .ref l1]) bf269_754 bf269_755 rfl rfl).trans ?_
  exact bh bf269_755 bf269_756 rfl (fun _ _ => am_ge_rf w) rfl
theorem bk269_834 {w : am_Wd} {l0 : Nat} {l1 : Nat} {l2 : Nat} {l3 : Nat} {l4 : Int32} : am_run 269 834 [some (.ref l0), some (.ref l1), some (.ref l2), some (.ref l3), some (.int l4), none, none, none] [] w = (am_ri 0 w l0 (l4 + (nI 1))).bind fun v => am_run 269 841 [some (.ref l0), some (.ref l1), some (.ref l2), some (.ref l3), some (.int l4), none, none, none] (.int v :: [.ref l1]) w := by
  refine (bu (ls'' := [some (.ref l0), some (.ref l1), some (.ref l2), some (.ref l3), some (.int l4), none, none, none]) (st' := [.ref l1]) bf269_834 bf269_835 rfl rfl).trans ?_
  refine (bu (ls'' := [some (.ref l0), some (.ref l1), some (.ref l2), some (.ref l3), some (.int l4), none, none, none]) (st' := [.ref l0, .ref l1]) bf269_835 bf269_836 rfl rfl).trans ?_
  refine (bu (ls'' := [some (.ref l0), some (.ref l1), some (.ref l2), some (.ref l3), some (.int l4), none, none, none]) (st' := [.int l4, .ref l0, .ref l1]) bf269_836 bf269_838 rfl rfl).trans ?_
  refine (bu (ls'' := [some (.ref l0), some (.ref l1), some (.ref l2), some (.ref l3), some (.int l4), none, none, none]) (st' := [.int (nI 1), .int l4, .ref l0, .ref l1]) bf269_838 bf269_839 rfl rfl).trans ?_
  refine (bu (ls'' := [some (.ref l0), some (.ref l1), some (.ref l2), some (.ref l3), some (.int l4), none, none, none]) (st' := [.int (l4 + (nI 1)), .ref l0, .ref l1]) bf269_839 bf269_840 rfl rfl).trans ?_
  exact bh bf269_840 bf269_841 rfl (fun _ _ => am_ge_rf w) rfl
theorem bk269_919 {w : am_Wd} {l0 : Nat} {l1 : Nat} {l2 : Nat} {l3 : Nat} {l4 : Int32} : am_run 269 919 [some (.ref l0), some (.ref l1), some (.ref l2), some (.ref l3), some (.int l4), none, none, none] [] w = (am_ri 0 w l0 (l4 + (nI 1))).bind fun v => am_run 269 926 [some (.ref l0), some (.ref l1), some (.ref l2), some (.ref l3), some (.int l4), none, none, none] (.int v :: [.ref l1]) w := by
  refine (bu (ls'' := [some (.ref l0), some (.ref l1), some (.ref l2), some (.ref l3), some (.int l4), none, none, none]) (st' := [.ref l1]) bf269_919 bf269_920 rfl rfl).trans ?_
  refine (bu (ls'' := [some (.ref l0), some (.ref l1), some (.ref l2), some (.ref l3), some (.int l4), none, none, none]) (st' := [.ref l0, .ref l1]) bf269_920 bf269_921 rfl rfl).trans ?_
  refine (bu (ls'' := [some (.ref l0), some (.ref l1), some (.ref l2), some (.ref l3), some (.int l4), none, none, none]) (st' := [.int l4, .ref l0, .ref l1]) bf269_921 bf269_923 rfl rfl).trans ?_
  refine (bu (ls'' := [some (.ref l0), some (.ref l1), some (.ref l2), some (.ref l3), some (.int l4), none, none, none]) (st' := [.int (nI 1), .int l4, .ref l0, .ref l1]) bf269_923 bf269_924 rfl rfl).trans ?_
  refine (bu (ls'' := [some (.ref l0), some (.ref l1), some (.ref l2), some (.ref l3), some (.int l4), none, none, none]) (st' := [.int (l4 + (nI 1)), .ref l0, .ref l1]) bf269_924 bf269_925 rfl rfl).trans ?_
  exact bh bf269_925 bf269_926 rfl (fun _ _ => am_ge_rf w) rfl
theorem bk269_988 {w : am_Wd} {l0 : Nat} {l1 : Nat} {l2 : Nat} {l3 : Nat} {l4 : Int32} : am_run 269 988 [some (.ref l0), some (.ref l1), some (.ref l2), some (.ref l3), some (.int l4), none, none, none] [] w = (am_ri 0 w l0 (l4 + (nI 1))).bind fun v => am_run 269 995 [some (.ref l0), some (.ref l1), some (.ref l2), some (.ref l3), some (.int l4), none, none, none] (.int v :: [.ref l1]) w := by
  refine (bu (ls'' := [some (.ref l0), some (.ref l1), some (.ref l2), some (.ref l3), some (.int l4), none, none, none]) (st' := [.ref l1]) bf269_988 bf269_989 rfl rfl).trans ?_
  refine (bu (ls'' := [some (.ref l0), some (.ref l1), some (.ref l2), some (.ref l3), some (.int l4), none, none, none]) (st' := [.ref l0, .ref l1]) bf269_989 bf269_990 rfl rfl).trans ?_
  refine (bu (ls'' := [some (.ref l0), some (.ref l1), some (.ref l2), some (.ref l3), some (.int l4), none, none, none]) (st' := [.int l4, .ref l0, .ref l1]) bf269_990 bf269_992 rfl rfl).trans ?_
  refine (bu (ls'' := [some (.ref l0), some (.ref l1), some (.ref l2), some (.ref l3), some (.int l4), none, none, none]) (st' := [.int (nI 1), .int l4, .ref l0, .ref l1]) bf269_992 bf269_993 rfl rfl).trans ?_
  refine (bu (ls'' := [some (.ref l0), some (.ref l1), some (.ref l2), some (.ref l3), some (.int l4), none, none, none]) (st' := [.int (l4 + (nI 1)), .ref l0, .ref l1]) bf269_993 bf269_994 rfl rfl).trans ?_
  exact bh bf269_994 bf269_995 rfl (fun _ _ => am_ge_rf w) rfl
theorem bk269_1045 {w : am_Wd} {l0 : Nat} {l1 : Nat} {l2 : Nat} {l3 : Nat} {l4 : Int32} : am_run 269 1045 [some (.ref l0), some (.ref l1), some (.ref l2), some (.ref l3), some (.int l4), none, none, none] [] w = (am_ri 0 w l0 (l4 + (nI 1))).bind fun v => am_run 269 1052 [some (.ref l0), some (.ref l1), some (.ref l2), some (.ref l3), some (.int l4), none, none, none] (.int v :: [.ref l1]) w := by
  refine (bu (ls'' := [some (.ref l0), some (.ref l1), some (.ref l2), some (.ref l3), some (.int l4), none, none, none]) (st' := [.ref l1]) bf269_1045 bf269_1046 rfl rfl).trans ?_
  refine (bu (ls'' := [some (.ref l0), some (.ref l1), some (.ref l2), some (.ref l3), some (.int l4), none, none, none]) (st' := [.ref l0, .ref l1]) bf269_1046 bf269_1047 rfl rfl).trans ?_
  refine (bu (ls'' := [some (.ref l0), some (.ref l1), some (.ref l2), some (.ref l3), some (.int l4), none, none, none]) (st' := [.int l4, .ref l0, .ref l1]) bf269_1047 bf269_1049 rfl rfl).trans ?_
  refine (bu (ls'' := [some (.ref l0), some (.ref l1), some (.ref l2), some (.ref l3), some (.int l4), none, none, none]) (st' := [.int (nI 1), .int l4, .ref l0, .ref l1]) bf269_1049 bf269_1050 rfl rfl).trans ?_
  refine (bu (ls'' := [some (.ref l0), some (.ref l1), some (.ref l2), some (.ref l3), some (.int l4), none, none, none]) (st' := [.int (l4 + (nI 1)), .ref l0, .ref l1]) bf269_1050 bf269_1051 rfl rfl).trans ?_
  exact bh bf269_1051 bf269_1052 rfl (fun _ _ => am_ge_rf w) rfl
theorem bk269_1114 {w : am_Wd} {l0 : Nat} {l1 : Nat} {l2 : Nat} {l3 : Nat} {l4 : Int32} : am_run 269 1114 [some (.ref l0), some (.ref l1), some (.ref l2), some (.ref l3), some (.int l4), none, none, none] [] w = (am_ri 0 w l0 (l4 + (nI 1))).bind fun v => am_run 269 1121 [some (.ref l0), some (.ref l1), some (.ref l2), some (.ref l3), some (.int l4), none, none, none] (.int v :: [.ref l1]) w := by
  refine (bu (ls'' := [some (.ref l0), some (.ref l1), some (.ref l2), some (.ref l3), some (.int l4), none, none, none]) (st' := [.ref l1]) bf269_1114 bf269_1115 rfl rfl).trans ?_
  refine (bu (ls'' := [some (.ref l0), some (.ref l1), some (.ref l2), some (.ref l3), some (.int l4), none, none, none]) (st' := [.ref l0, .ref l1]) bf269_1115 bf269_1116 rfl rfl).trans ?_
  refine (bu (ls'' := [some (.ref l0), some (.ref l1), some (.ref l2), some (.ref l3), some (.int l4), none, none, none]) (st' := [.int l4, .ref l0, .ref l1]) bf269_1116 bf269_1118 rfl rfl).trans ?_
  refine (bu (ls'' := [some (.ref l0), some (.ref l1), some (.ref l2), some (.ref l3), some (.int l4), none, none, none]) (st' := [.int (nI 1), .int l4, .ref l0, .ref l1]) bf269_1118 bf269_1119 rfl rfl).trans ?_
  refine (bu (ls'' := [some (.ref l0), some (.ref l1), some (.ref l2), some (.ref l3), some (.int l4), none, none, none]) (st' := [.int (l4 + (nI 1)), .ref l0, .ref l1]) bf269_1119 bf269_1120 rfl rfl).trans ?_
  exact bh bf269_1120 bf269_1121 rfl (fun _ _ => am_ge_rf w) rfl
theorem bk269_1171 {w : am_Wd} {l0 : Nat} {l1 : Nat} {l2 : Nat} {l3 : Nat} {l4 : Int32} : am_run 269 1171 [some (.ref l0), some (.ref l1), some (.ref l2), some (.ref l3), some (.int l4), none, none, none] [] w = (am_kf w l1 8).bind fun _ => (am_x 24 [.ref l1] w).bind fun r => bct r fun v w' => am_run 269 1175 [some (.ref l0), some (.ref l1), some (.ref l2), some (.ref l3), some (.int l4), none, none, none] (v.toList ++ []) w' := by
  refine (bu (ls'' := [some (.ref l0), some (.ref l1), some (.ref l2), some (.ref l3), some (.int l4), none, none, none]) (st' := [.ref l1]) bf269_1171 bf269_1172 rfl rfl).trans ?_
  exact bkV bf269_1172 bf269_1175 rfl (by decide +kernel) (Nat.le_of_ble_eq_true rfl) rfl (bhd rfl)
theorem bk269_1184 {w : am_Wd} {l0 : Nat} {l1 : Nat} {l2 : Nat} {l3 : Nat} {l4 : Int32} : am_run 269 1184 [some (.ref l0), some (.ref l1), some (.ref l2), some (.ref l3), some (.int l4), none, none, none] [] w = (am_ri 0 w l0 (l4 + (nI 1))).bind fun v => am_run 269 1191 [some (.ref l0), some (.ref l1), some (.ref l2), some (.ref l3), some (.int l4), none, none, none] (.int v :: [.ref l1]) w := by
  refine (bu (ls'' := [some (.ref l0), some (.ref l1), some (.ref l2), some (.ref l3), some (.int l4), none, none, none]) (st' := [.ref l1]) bf269_1184 bf269_1185 rfl rfl).trans ?_
  refine (bu (ls'' := [some (.ref l0), some (.ref l1), some (.ref l2), some (.ref l3), some (.int l4), none, none, none]) (st' := [.ref l0, .ref l1]) bf269_1185 bf269_1186 rfl rfl).trans ?_
  refine (bu (ls'' := [some (.ref l0), some (.ref l1), some (.ref l2), some (.ref l3), some (.int l4), none, none, none]) (st' := [.int l4, .ref l0, .ref l1]) bf269_1186 bf269_1188 rfl rfl).trans ?_
  refine (bu (ls'' := [some (.ref l0), some (.ref l1), some (.ref l2), some (.ref l3), some (.int l4), none, none, none]) (st' := [.int (nI 1), .int l4, .ref l0, .ref l1]) bf269_1188 bf269_1189 rfl rfl).trans ?_
  refine (bu (ls'' := [some (.ref l0), some (.ref l1), some (.ref l2), some (.ref l3), some (.int l4), none, none, none]) (st' := [.int (l4 + (nI 1)), .ref l0, .ref l1]) bf269_1189 bf269_1190 rfl rfl).trans ?_
  exact bh bf269_1190 bf269_1191 rfl (fun _ _ => am_ge_rf w) rfl
theorem bk269_1265 {w : am_Wd} {l0 : Nat} {l1 : Nat} {l2 : Nat} {l3 : Nat} {l4 : Int32} : am_run 269 1265 [some (.ref l0), some (.ref l1), some (.ref l2), some (.ref l3), some (.int l4), none, none, none] [] w = (am_ri 0 w l0 (l4 + (nI 1))).bind fun v => am_run 269 1272 [some (.ref l0), some (.ref l1), some (.ref l2), some (.ref l3), some (.int l4), none, none, none] (.int v :: [.ref l1]) w := by
  refine (bu (ls'' := [some (.ref l0), some (.ref l1), some (.ref l2), some (.ref l3), some (.int l4), none, none, none]) (st' := [.ref l1]) bf269_1265 bf269_1266 rfl rfl).trans ?_
  refine (bu (ls'' := [some (.ref l0), some (.ref l1), some (.ref l2), some (.ref l3), some (.int l4), none, none, none]) (st' := [.ref l0, .ref l1]) bf269_1266 bf269_1267 rfl rfl).trans ?_
  refine (bu (ls'' := [some (.ref l0), some (.ref l1), some (.ref l2), some (.ref l3), some (.int l4), none, none, none]) (st' := [.int l4, .ref l0, .ref l1]) bf269_1267 bf269_1269 rfl rfl).trans ?_
  refine (bu (ls'' := [some (.ref l0), some (.ref l1), some (.ref l2), some (.ref l3), some (.int l4), none, none, none]) (st' := [.int (nI 1), .int l4, .ref l0, .ref l1]) bf269_1269 bf269_1270 rfl rfl).trans ?_
  refine (bu (ls'' := [some (.ref l0), some (.ref l1), some (.ref l2), some (.ref l3), some (.int l4), none, none, none]) (st' := [.int (l4 + (nI 1)), .ref l0, .ref l1]) bf269_1270 bf269_1271 rfl rfl).trans ?_
  exact bh bf269_1271 bf269_1272 rfl (fun _ _ => am_ge_rf w) rfl
theorem bk269_1334 {w : am_Wd} {l0 : Nat} {l1 : Nat} {l2 : Nat} {l3 : Nat} {l4 : Int32} : am_run 269 1334 [some (.ref l0), some (.ref l1), some (.ref l2), some (.ref l3), some (.int l4), none, none, none] [] w = (am_ri 0 w l0 (l4 + (nI 1))).bind fun v => am_run 269 1341 [some (.ref l0), some (.ref l1), some (.ref l2), some (.ref l3), some (.int l4), none, none, none] (.int v :: [.ref l1]) w := by
  refine (bu (ls'' := [some (.ref l0), some (.ref l1), some (.ref l2), some (.ref l3), some (.int l4), none, none, none]) (st' := [.ref l1]) bf269_1334 bf269_1335 rfl rfl).trans ?_
  refine (bu (ls'' := [some (.ref l0), some (.ref l1), some (.ref l2), some (.ref l3), some (.int l4), none, none, none]) (st' := [.ref l0, .ref l1]) bf269_1335 bf269_1336 rfl rfl).trans ?_
  refine (bu (ls'' := [some (.ref l0), some (.ref l1), some (.ref l2), some (.ref l3), some (.int l4), none, none, none]) (st' := [.int l4, .ref l0, .ref l1]) bf269_1336 bf269_1338 rfl rfl).trans ?_
  refine (bu (ls'' := [some (.ref l0), some (.ref l1), some (.ref l2), some (.ref l3), some (.int l4), none, none, none]) (st' := [.int (nI 1), .int l4, .ref l0, .ref l1]) bf269_1338 bf269_1339 rfl rfl).trans ?_
  refine (bu (ls'' := [some (.ref l0), some (.ref l1), some (.ref l2), some (.ref l3), some (.int l4), none, none, none]) (st' := [.int (l4 + (nI 1)), .ref l0, .ref l1]) bf269_1339 bf269_1340 rfl rfl).trans ?_
  exact bh bf269_1340 bf269_1341 rfl (fun _ _ => am_ge_rf w) rfl
theorem bk269_1391 {w : am_Wd} {l0 : Nat} {l1 : Nat} {l2 : Nat} {l3 : Nat} {l4 : Int32} : am_run 269 1391 [some (.ref l0), some (.ref l1), some (.ref l2), some (.ref l3), some (.int l4), none, none, none] [] w = (am_ri 0 w l0 (l4 + (nI 1))).bind fun v => am_run 269 1398 [some (.ref l0), some (.ref l1), some (.ref l2), some (.ref l3), some (.int l4), none, none, none] (.int v :: [.ref l1]) w := by
  refine (bu (ls'' := [some (.ref l0), some (.ref l1), some (.ref l2), some (.ref l3), some (.int l4), none, none, none]) (st' := [.ref l1]) bf269_1391 bf269_1392 rfl rfl).trans ?_
  refine (bu (ls'' := [some (.ref l0), some (.ref l1), some (.ref l2), some (.ref l3), some (.int l4), none, none, none]) (st' := [.ref l0, .ref l1]) bf269_1392 bf269_1393 rfl rfl).trans ?_
  refine (bu (ls'' := [some (.ref l0), some (.ref l1), some (.ref l2), some (.ref l3), some (.int l4), none, none, none]) (st' := [.int l4, .ref l0, .ref l1]) bf269_1393 bf269_1395 rfl rfl).trans ?_
  refine (bu (ls'' := [some (.ref l0), some (.ref l1), some (.ref l2), some (.ref l3), some (.int l4), none, none, none]) (st' := [.int (nI 1), .int l4, .ref l0, .ref l1]) bf269_1395 bf269_1396 rfl rfl).trans ?_
  refine (bu (ls'' := [some (.ref l0), some (.ref l1), some (.ref l2), some (.ref l3), some (.int l4), none, none, none]) (st' := [.int (l4 + (nI 1)), .ref l0, .ref l1]) bf269_1396 bf269_1397 rfl rfl).trans ?_
  exact bh bf269_1397 bf269_1398 rfl (fun _ _ => am_ge_rf w) rfl
theorem bk269_1449 {w : am_Wd} {l0 : Nat} {l1 : Nat} {l2 : Nat} {l3 : Nat} {l4 : Int32} : am_run 269 1449 [some (.ref l0), some (.ref l1), some (.ref l2), some (.ref l3), some (.int l4), none, none, none] [] w = (am_ri 0 w l0 (l4 + (nI 1))).bind fun v => am_run 269 1456 [some (.ref l0), some (.ref l1), some (.ref l2), some (.ref l3), some (.int l4), none, none, none] (.int v :: [.ref l1]) w := by
  refine (bu (ls'' := [some (.ref l0), some (.ref l1), some (.ref l2), some (.ref l3), some (.int l4), none, none, none]) (st' := [.ref l1]) bf269_1449 bf269_1450 rfl rfl).trans ?_
  refine (bu (ls'' := [some (.ref l0), some (.ref l1), some (.ref l2), some (.ref l3), some (.int l4), none, none, none]) (st' := [.ref l0, .ref l1]) bf269_1450 bf269_1451 rfl rfl).trans ?_
  refine (bu (ls'' := [some (.ref l0), some (.ref l1), some (.ref l2), some (.ref l3), some (.int l4), none, none, none]) (st' := [.int l4, .ref l0, .ref l1]) bf269_1451 bf269_1453 rfl rfl).trans ?_
  refine (bu (ls'' := [some (.ref l0), some (.ref l1), some (.ref l2), some (.ref l3), some (.int l4), none, none, none]) (st' := [.int (nI 1), .int l4, .ref l0, .ref l1]) bf269_1453 bf269_1454 rfl rfl).trans ?_
  refine (bu (ls'' := [some (.ref l0), some (.ref l1), some (.ref l2), some (.ref l3), some (.int l4), none, none, none]) (st' := [.int (l4 + (nI 1)), .ref l0, .ref l1]) bf269_1454 bf269_1455 rfl rfl).trans ?_
  exact bh bf269_1455 bf269_1456 rfl (fun _ _ => am_ge_rf w) rfl
theorem bk269_1530 {w : am_Wd} {l0 : Nat} {l1 : Nat} {l2 : Nat} {l3 : Nat} {l4 : Int32} : am_run 269 1530 [some (.ref l0), some (.ref l1), some (.ref l2), some (.ref l3), some (.int l4), none, none, none] [] w = (am_ri 0 w l0 (l4 + (nI 1))).bind fun v => am_run 269 1537 [some (.ref l0), some (.ref l1), some (.ref l2), some (.ref l3), some (.int l4), none, none, none] (.int v :: [.ref l1]) w := by
  refine (bu (ls'' := [some (.ref l0), some (.ref l1), some (.ref l2), some (.ref l3), some (.int l4), none, none, none]) (st' := [.ref l1]) bf269_1530 bf269_1531 rfl rfl).trans ?_
  refine (bu (ls'' := [some (.ref l0), some (.ref l1), some (.ref l2), some (.ref l3), some (.int l4), none, none, none]) (st' := [.ref l0, .ref l1]) bf269_1531 bf269_1532 rfl rfl).trans ?_
  refine (bu (ls'' := [some (.ref l0), some (.ref l1), some (.ref l2), some (.ref l3), some (.int l4), none, none, none]) (st' := [.int l4, .ref l0, .ref l1]) bf269_1532 bf269_1534 rfl rfl).trans ?_
  refine (bu (ls'' := [some (.ref l0), some (.ref l1), some (.ref l2), some (.ref l3), some (.int l4), none, none, none]) (st' := [.int (nI 1), .int l4, .ref l0, .ref l1]) bf269_1534 bf269_1535 rfl rfl).trans ?_
  refine (bu (ls'' := [some (.ref l0), some (.ref l1), some (.ref l2), some (.ref l3), some (.int l4), none, none, none]) (st' := [.int (l4 + (nI 1)), .ref l0, .ref l1]) bf269_1535 bf269_1536 rfl rfl).trans ?_
  exact bh bf269_1536 bf269_1537 rfl (fun _ _ => am_ge_rf w) rfl
theorem bk269_1606 {w : am_Wd} {l0 : Nat} {l1 : Nat} {l2 : Nat} {l3 : Nat} {l4 : Int32} : am_run 269 1606 [some (.ref l0), some (.ref l1), some (.ref l2), some (.ref l3), some (.int l4), none, none, none] [] w = (am_ri 0 w l0 (l4 + (nI 1))).bind fun v => am_run 269 1613 [some (.ref l0), some (.ref l1), some (.ref l2), some (.ref l3), some (.int l4), none, none, none] (.int v :: [.ref l1]) w := by
  refine (bu (ls'' := [some (.ref l0), some (.ref l1), some (.ref l2), some (.ref l3), some (.int l4), none, none, none]) (st' := [.ref l1]) bf269_1606 bf269_1607 rfl rfl).trans ?_
  refine (bu (ls'' := [some (.ref l0), some (.ref l1), some (.ref l2), some (.ref l3), some (.int l4), none, none, none]) (st' := [.ref l0, .ref l1]) bf269_1607 bf269_1608 rfl rfl).trans ?_
  refine (bu (ls'' := [some (.ref l0), some (.ref l1), some (.ref l2), some (.ref l3), some (.int l4), none, none, none]) (st' := [.int l4, .ref l0, .ref l1]) bf269_1608 bf269_1610 rfl rfl).trans ?_
  refine (bu (ls'' := [some (.ref l0), some (.ref l1), some (.ref l2), some (.ref l3), some (.int l4), none, none, none]) (st' := [.int (nI 1), .int l4, .ref l0, .ref l1]) bf269_1610 bf269_1611 rfl rfl).trans ?_
  refine (bu (ls'' := [some (.ref l0), some (.ref l1), some (.ref l2), some (.ref l3), some (.int l4), none, none, none]) (st' := [.int (l4 + (nI 1)), .ref l0, .ref l1]) bf269_1611 bf269_1612 rfl rfl).trans ?_
  exact bh bf269_1612 bf269_1613 rfl (fun _ _ => am_ge_rf w) rfl
theorem bk269_1674 {w : am_Wd} {l0 : Nat} {l1 : Nat} {l2 : Nat} {l3 : Nat} {l4 : Int32} : am_run 269 1674 [some (.ref l0), some (.ref l1), some (.ref l2), some (.ref l3), some (.int l4), none, none, none] [] w = (am_ri 0 w l0 (l4 + (nI 1))).bind fun v => am_run 269 1681 [some (.ref l0), some (.ref l1), some (.ref l2), some (.ref l3), some (.int l4), none, none, none] (.int v :: [.ref l1]) w := by
  refine (bu (ls'' := [some (.ref l0), some (.ref l1), some (.ref l2), some (.ref l3), some (.int l4), none, none, none]) (st' := [.ref l1]) bf269_1674 bf269_1675 rfl rfl).trans ?_
  refine (bu (ls'' := [some (.ref l0), some (.ref l1), some (.ref l2), some (.ref l3), some (.int l4), none, none, none]) (st' := [.ref l0, .ref l1]) bf269_1675 bf269_1676 rfl rfl).trans ?_
  refine (bu (ls'' := [some (.ref l0), some (.ref l1), some (.ref l2), some (.ref l3), some (.int l4), none, none, none]) (st' := [.int l4, .ref l0, .ref l1]) bf269_1676 bf269_1678 rfl rfl).trans ?_
  refine (bu (ls'' := [some (.ref l0), some (.ref l1), some (.ref l2), some (.ref l3), some (.int l4), none, none, none]) (st' := [.int (nI 1), .int l4, .ref l0, .ref l1]) bf269_1678 bf269_1679 rfl rfl).trans ?_
  refine (bu (ls'' := [some (.ref l0), some (.ref l1), some (.ref l2), some (.ref l3), some (.int l4), none, none, none]) (st' := [.int (l4 + (nI 1)), .ref l0, .ref l1]) bf269_1679 bf269_1680 rfl rfl).trans ?_
  exact bh bf269_1680 bf269_1681 rfl (fun _ _ => am_ge_rf w) rfl
theorem bk269_1755 {w : am_Wd} {l0 : Nat} {l1 : Nat} {l2 : Nat} {l3 : Nat} {l4 : Int32} : am_run 269 1755 [some (.ref l0), some (.ref l1), some (.ref l2), some (.ref l3), some (.int l4), none, none, none] [] w = (am_ri 0 w l0 (l4 + (nI 1))).bind fun v => am_run 269 1762 [some (.ref l0), some (.ref l1), some (.ref l2), some (.ref l3), some (.int l4), none, none, none] (.int v :: [.ref l1]) w := by
  refine (bu (ls'' := [some (.ref l0), some (.ref l1), some (.ref l2), some (.ref l3), some (.int l4), none, none, none]) (st' := [.ref l1]) bf269_1755 bf269_1756 rfl rfl).trans ?_
  refine (bu (ls'' := [some (.ref l0), some (.ref l1), some (.ref l2), some (.ref l3), some (.int l4), none, none, none]) (st' := [.ref l0, .ref l1]) bf269_1756 bf269_1757 rfl rfl).trans ?_
  refine (bu (ls'' := [some (.ref l0), some (.ref l1), some (.ref l2), some (.ref l3), some (.int l4), none, none, none]) (st' := [.int l4, .ref l0, .ref l1]) bf269_1757 bf269_1759 rfl rfl).trans ?_
  refine (bu (ls'' := [some (.ref l0), some (.ref l1), some (.ref l2), some (.ref l3), some (.int l4), none, none, none]) (st' := [.int (nI 1), .int l4, .ref l0, .ref l1]) bf269_1759 bf269_1760 rfl rfl).trans ?_
  refine (bu (ls'' := [some (.ref l0), some (.ref l1), some (.ref l2), some (.ref l3), some (.int l4), none, none, none]) (st' := [.int (l4 + (nI 1)), .ref l0, .ref l1]) bf269_1760 bf269_1761 rfl rfl).trans ?_
  exact bh bf269_1761 bf269_1762 rfl (fun _ _ => am_ge_rf w) rfl
theorem bk269_1824 {w : am_Wd} {l0 : Nat} {l1 : Nat} {l2 : Nat} {l3 : Nat} {l4 : Int32} : am_run 269 1824 [some (.ref l0), some (.ref l1), some (.ref l2), some (.ref l3), some (.int l4), none, none, none] [] w = (am_ri 0 w l0 (l4 + (nI 1))).bind fun v => am_run 269 1831 [some (.ref l0), some (.ref l1), some (.ref l2), some (.ref l3), some (.int l4), none, none, none] (.int v :: [.ref l1]) w := by
  refine (bu (ls'' := [some (.ref l0), some (.ref l1), some (.ref l2), some (.ref l3), some (.int l4), none, none, none]) (st' := [.ref l1]) bf269_1824 bf269_1825 rfl rfl).trans ?_
  refine (bu (ls'' := [some (.ref l0), some (.ref l1), some (.ref l2), some (.ref l3), some (.int l4), none, none, none]) (st' := [.ref l0, .ref l1]) bf269_1825 bf269_1826 rfl rfl).trans ?_
  refine (bu (ls'' := [some (.ref l0), some (.ref l1), some (.ref l2), some (.ref l3), some (.int l4), none, none, none]) (st' := [.int l4, .ref l0, .ref l1]) bf269_1826 bf269_1828 rfl rfl).trans ?_
  refine (bu (ls'' := [some (.ref l0), some (.ref l1), some (.ref l2), some (.ref l3), some (.int l4), none, none, none]) (st' := [.int (nI 1), .int l4, .ref l0, .ref l1]) bf269_1828 bf269_1829 rfl rfl).trans ?_
  refine (bu (ls'' := [some (.ref l0), some (.ref l1), some (.ref l2), some (.ref l3), some (.int l4), none, none, none]) (st' := [.int (l4 + (nI 1)), .ref l0, .ref l1]) bf269_1829 bf269_1830 rfl rfl).trans ?_
  exact bh bf269_1830 bf269_1831 rfl (fun _ _ => am_ge_rf w) rfl
theorem bk269_1900 {w : am_Wd} {l0 : Nat} {l1 : Nat} {l2 : Nat} {l3 : Nat} {l4 : Int32} : am_run 269 1900 [some (.ref l0), some (.ref l1), some (.ref l2), some (.ref l3), some (.int l4), none, none, none] [] w = (am_ri 0 w l0 (l4 + (nI 1))).bind fun v => am_run 269 1907 [some (.ref l0), some (.ref l1), some (.ref l2), some (.ref l3), some (.int l4), none, none, none] (.int v :: [.ref l1]) w := by
  refine (bu (ls'' := [some (.ref l0), some (.ref l1), some (.ref l2), some (.ref l3), some (.int l4), none, none, none]) (st' := [.ref l1]) bf269_1900 bf269_1901 rfl rfl).trans ?_
  refine (bu (ls'' := [some (.ref l0), some (.ref l1), some (.ref l2), some (.ref l3), some (.int l4), none, none, none]) (st' := [.ref l0, .ref l1]) bf269_1901 bf269_1902 rfl rfl).trans ?_
  refine (bu (ls'' := [some (.ref l0), some (.ref l1), some (.ref l2), some (.ref l3), some (.int l4), none, none, none]) (st' := [.int l4, .ref l0, .ref l1]) bf269_1902 bf269_1904 rfl rfl).trans ?_
  refine (bu (ls'' := [some (.ref l0), some (.ref l1), some (.ref l2), some (.ref l3), some (.int l4), none, none, none]) (st' := [.int (nI 1), .int l4, .ref l0, .ref l1]) bf269_1904 bf269_1905 rfl rfl).trans ?_
  refine (bu (ls'' := [some (.ref l0), some (.ref l1), some (.ref l2), some (.ref l3), some (.int l4), none, none, none]) (st' := [.int (l4 + (nI 1)), .ref l0, .ref l1]) bf269_1905 bf269_1906 rfl rfl).trans ?_
  exact bh bf269_1906 bf269_1907 rfl (fun _ _ => am_ge_rf w) rfl
theorem bk269_1969 {w : am_Wd} {l0 : Nat} {l1 : Nat} {l2 : Nat} {l3 : Nat} {l4 : Int32} : am_run 269 1969 [some (.ref l0), some (.ref l1), some (.ref l2), some (.ref l3), some (.int l4), none, none, none] [] w = (am_ri 0 w l0 (l4 + (nI 1))).bind fun v => am_run 269 1976 [some (.ref l0), some (.ref l1), some (.ref l2), some (.ref l3), some (.int l4), none, none, none] (.int v :: [.ref l1]) w := by
  refine (bu (ls'' := [some (.ref l0), some (.ref l1), some (.ref l2), some (.ref l3), some (.int l4), none, none, none]) (st' := [.ref l1]) bf269_1969 bf269_1970 rfl rfl).trans ?_
  refine (bu (ls'' := [some (.ref l0), some (.ref l1), some (.ref l2), some (.ref l3), some (.int l4), none, none, none]) (st' := [.ref l0, .ref l1]) bf269_1970 bf269_1971 rfl rfl).trans ?_
  refine (bu (ls'' := [some (.ref l0), some (.ref l1), some (.ref l2), some (.ref l3), some (.int l4), none, none, none]) (st' := [.int l4, .ref l0, .ref l1]) bf269_1971 bf269_1973 rfl rfl).trans ?_
  refine (bu (ls'' := [some (.ref l0), some (.ref l1), some (.ref l2), some (.ref l3), some (.int l4), none, none, none]) (st' := [.int (nI 1), .int l4, .ref l0, .ref l1]) bf269_1973 bf269_1974 rfl rfl).trans ?_
  refine (bu (ls'' := [some (.ref l0), some (.ref l1), some (.ref l2), some (.ref l3), some (.int l4), none, none, none]) (st' := [.int (l4 + (nI 1)), .ref l0, .ref l1]) bf269_1974 bf269_1975 rfl rfl).trans ?_
  exact bh bf269_1975 bf269_1976 rfl (fun _ _ => am_ge_rf w) rfl
theorem bk269_2026 {w : am_Wd} {l0 : Nat} {l1 : Nat} {l2 : Nat} {l3 : Nat} {l4 : Int32} : am_run 269 2026 [some (.ref l0), some (.ref l1), some (.ref l2), some (.ref l3), some (.int l4), none, none, none] [] w = (am_ri 0 w l0 (l4 + (nI 1))).bind fun v => am_run 269 2033 [some (.ref l0), some (.ref l1), some (.ref l2), some (.ref l3), some (.int l4), none, none, none] (.int v :: [.ref l1]) w := by
  refine (bu (ls'' := [some (.ref l0), some (.ref l1), some (.ref l2), some (.ref l3), some (.int l4), none, none, none]) (st' := [.ref l1]) bf269_2026 bf269_2027 rfl rfl).trans ?_
  refine (bu (ls'' := [some (.ref l0), some (.ref l1), some (.ref l2), some (.ref l3), some (.int l4), none, none, none]) (st' := [.ref l0, .ref l1]) bf269_2027 bf269_2028 rfl rfl).trans ?_
  refine (bu (ls'' := [some (.ref l0), some (.ref l1), some (.ref l2), some (.ref l3), some (.int l4), none, none, none]) (st' := [.int l4, .ref l0, .ref l1]) bf269_2028 bf269_2030 rfl rfl).trans ?_
  refine (bu (ls'' := [some (.ref l0), some (.ref l1), some (.ref l2), some (.ref l3), some (.int l4), none, none, none]) (st' := [.int (nI 1), .int l4, .ref l0, .ref l1]) bf269_2030 bf269_2031 rfl rfl).trans ?_
  refine (bu (ls'' := [some (.ref l0), some (.ref l1), some (.ref l2), some (.ref l3), some (.int l4), none, none, none]) (st' := [.int (l4 + (nI 1)), .ref l0, .ref l1]) bf269_2031 bf269_2032 rfl rfl).trans ?_
  exact bh bf269_2032 bf269_2033 rfl (fun _ _ => am_ge_rf w) rfl
theorem bk269_2095 {w : am_Wd} {l0 : Nat} {l1 : Nat} {l2 : Nat} {l3 : Nat} {l4 : Int32} : am_run 269 2095 [some (.ref l0), some (.ref l1), some (.ref l2), some (.ref l3), some (.int l4), none, none, none] [] w = (am_ri 0 w l0 (l4 + (nI 1))).bind fun v => am_run 269 2102 [some (.ref l0), some (.ref l1), some (.ref l2), some (.ref l3), some (.int l4), none, none, none] (.int v :: [.ref l1]) w := by
  refine (bu (ls'' := [some (.ref l0), some (.ref l1), some (.ref l2), some (.ref l3), some (.int l4), none, none, none]) (st' := [.ref l1]) bf269_2095 bf269_2096 rfl rfl).trans ?_
  refine (bu (ls'' := [some (.ref l0), some (.ref l1), some (.ref l2), some (.ref l3), some (.int l4), none, none, none]) (st' := [.ref l0, .ref l1]) bf269_2096 bf269_2097 rfl rfl).trans ?_
  refine (bu (ls'' := [some (.ref l0), some (.ref l1), some (.ref l2), some (.ref l3), some (.int l4), none, none, none]) (st' := [.int l4, .ref l0, .ref l1]) bf269_2097 bf269_2099 rfl rfl).trans ?_
  refine (bu (ls'' := [some (.ref l0), some (.ref l1), some (.ref l2), some (.ref l3), some (.int l4), none, none, none]) (st' := [.int (nI 1), .int l4, .ref l0, .ref l1]) bf269_2099 bf269_2100 rfl rfl).trans ?_
  refine (bu (ls'' := [some (.ref l0), some (.ref l1), some (.ref l2), some (.ref l3), some (.int l4), none, none, none]) (st' := [.int (l4 + (nI 1)), .ref l0, .ref l1]) bf269_2100 bf269_2101 rfl rfl).trans ?_
  exact bh bf269_2101 bf269_2102 rfl (fun _ _ => am_ge_rf w) rfl
theorem bk269_2164 {w : am_Wd} {l0 : Nat} {l1 : Nat} {l2 : Nat} {l3 : Nat} {l4 : Int32} : am_run 269 2164 [some (.ref l0), some (.ref l1), some (.ref l2), some (.ref l3), some (.int l4), none, none, none] [] w = (am_kf w l1 8).bind fun _ => (am_x 224 [.ref l1] w).bind fun r => bct r fun v w' => am_run 269 2168 [some (.ref l0), some (.ref l1), some (.ref l2), some (.ref l3), some (.int l4), none, none, none] (v.toList ++ []) w' := by
  refine (bu (ls'' := [some (.ref l0), some (.ref l1), some (.ref l2), some (.ref l3), some (.int l4), none, none, none]) (st' := [.ref l1]) bf269_2164 bf269_2165 rfl rfl).trans ?_
  exact bkV bf269_2165 bf269_2168 rfl (by decide +kernel) (Nat.le_of_ble_eq_true rfl) rfl (bhd rfl)
theorem bk269_2177 {w : am_Wd} {l0 : Nat} {l1 : Nat} {l2 : Nat} {l3 : Nat} {l4 : Int32} : am_run 269 2177 [some (.ref l0), some (.ref l1), some (.ref l2), some (.ref l3), some (.int l4), none, none, none] [] w = (am_kf w l1 8).bind fun _ => (am_x 250 [.ref l1] w).bind fun r => bct r fun v w' => am_run 269 2181 [some (.ref l0), some (.ref l1), some (.ref l2), some (.ref l3), some (.int l4), none, none, none] (v.toList ++ []) w' := by
  refine (bu (ls'' := [some (.ref l0), some (.ref l1), some (.ref l2), some (.ref l3), some (.int l4), none, none, none]) (st' := [.ref l1]) bf269_2177 bf269_2178 rfl rfl).trans ?_
  exact bkV bf269_2178 bf269_2181 rfl (by decide +kernel) (Nat.le_of_ble_eq_true rfl) rfl (bhd rfl)
theorem bk269_2191 {w : am_Wd} {l0 : Nat} {l1 : Nat} {l2 : Nat} {l3 : Nat} {l4 : Int32} : am_run 269 2191 [some (.ref l0), some (.ref l1), some (.ref l2), some (.ref l3), some (.int l4), none, none, none] [] w = am_run 269 27 [some (.ref l0), some (.ref l1), some (.ref l2), some (.ref l3), some (.int (l4 + (nI 5))), none, none, none] [] w := by
  refine (bu (ls'' := [some (.ref l0), some (.ref l1), some (.ref l2), some (.ref l3), some (.int (l4 + (nI 5))), none, none, none]) (st' := []) bf269_2191 bf269_2194 rfl rfl).trans ?_
  refine (bu (ls'' := [some (.ref l0), some (.ref l1), some (.ref l2), some (.ref l3), some (.int (l4 + (nI 5))), none, none, none]) (st' := []) bf269_2194 bf269_27 rfl rfl).trans ?_
  rfl
theorem bk269_179 {w : am_Wd} {l0 : Nat} {l1 : Nat} {l2 : Nat} {l3 : Nat} {l4 : Int32} {s0 : Int32} {s1 : Nat} : am_run 269 179 [some (.ref l0), some (.ref l1), some (.ref l2), some (.ref l3), some (.int l4), none, none, none] [.int s0, .ref s1] w = (am_ri 0 w l0 (l4 + (nI 2))).bind fun v => am_run 269 185 [some (.ref l0), some (.ref l1), some (.ref l2), some (.ref l3), some (.int l4), none, none, none] (.int v :: [.int s0, .ref s1]) w := by
  refine (bu (ls'' := [some (.ref l0), some (.ref l1), some (.ref l2), some (.ref l3), some (.int l4), none, none, none]) (st' := [.ref l0, .int s0, .ref s1]) bf269_179 bf269_180 rfl rfl).trans ?_
  refine (bu (ls'' := [some (.ref l0), some (.ref l1), some (.ref l2), some (.ref l3), some (.int l4), none, none, none]) (st' := [.int l4, .ref l0, .int s0, .ref s1]) bf269_180 bf269_182 rfl rfl).trans ?_
  refine (bu (ls'' := [some (.ref l0), some (.ref l1), some (.ref l2), some (.ref l3), some (.int l4), none, none, none]) (st' := [.int (nI 2), .int l4, .ref l0, .int s0, .ref s1]) bf269_182 bf269_183 rfl rfl).trans ?_
  refine (bu (ls'' := [some (.ref l0), some (.ref l1), some (.ref l2), some (.ref l3), some (.int l4), none, none, none]) (st' := [.int (l4 + (nI 2)), .ref l0, .int s0, .ref s1]) bf269_183 bf269_184 rfl rfl).trans ?_
  exact bh bf269_184 bf269_185 rfl (fun _ _ => am_ge_rf w) rfl
theorem bk269_272 {w : am_Wd} {l0 : Nat} {l1 : Nat} {l2 : Nat} {l3 : Nat} {l4 : Int32} {s0 : Int32} {s1 : Nat} : am_run 269 272 [some (.ref l0), some (.ref l1), some (.ref l2), some (.ref l3), some (.int l4), none, none, none] [.int s0, .ref s1] w = (am_x 233 [.ref s1, .int s0, .ref l3] w).bind fun r => bct r fun v w' => am_run 269 276 [some (.ref l0), some (.ref l1), some (.ref l2), some (.ref l3), some (.int l4), none, none, none] (v.toList ++ []) w' := by
  refine (bu (ls'' := [some (.ref l0), some (.ref l1), some (.ref l2), some (.ref l3), some (.int l4), none, none, none]) (st' := [.ref l3, .int s0, .ref s1]) bf269_272 bf269_273 rfl rfl).trans ?_
  exact bkS bf269_273 bf269_276 rfl (by decide +kernel) (Nat.le_of_ble_eq_true rfl) rfl (bhd rfl)
theorem bk269_329 {w : am_Wd} {l0 : Nat} {l1 : Nat} {l2 : Nat} {l3 : Nat} {l4 : Int32} {s0 : Int32} {s1 : Nat} : am_run 269 329 [some (.ref l0), some (.ref l1), some (.ref l2), some (.ref l3), some (.int l4), none, none, none] [.int s0, .ref s1] w = (am_ri 0 w l0 (l4 + (nI 2))).bind fun v => am_run 269 335 [some (.ref l0), some (.ref l1), some (.ref l2), some (.ref l3), some (.int l4), none, none, none] (.int v :: [.int s0, .ref s1]) w := by
  refine (bu (ls'' := [some (.ref l0), some (.ref l1), some (.ref l2), some (.ref l3), some (.int l4), none, none, none]) (st' := [.ref l0, .int s0, .ref s1]) bf269_329 bf269_330 rfl rfl).trans ?_
  refine (bu (ls'' := [some (.ref l0), some (.ref l1), some (.ref l2), some (.ref l3), some (.int l4), none, none, none]) (st' := [.int l4, .ref l0, .int s0, .ref s1]) bf269_330 bf269_332 rfl rfl).trans ?_
  refine (bu (ls'' := [some (.ref l0), some (.ref l1), some (.ref l2), some (.ref l3), some (.int l4), none, none, none]) (st' := [.int (nI 2), .int l4, .ref l0, .int s0, .ref s1]) bf269_332 bf269_333 rfl rfl).trans ?_
  refine (bu (ls'' := [some (.ref l0), some (.ref l1), some (.ref l2), some (.ref l3), some (.int l4), none, none, none]) (st' := [.int (l4 + (nI 2)), .ref l0, .int s0, .ref s1]) bf269_333 bf269_334 rfl rfl).trans ?_
  exact bh bf269_334 bf269_335 rfl (fun _ _ => am_ge_rf w) rfl
theorem bk269_442 {w : am_Wd} {l0 : Nat} {l1 : Nat} {l2 : Nat} {l3 : Nat} {l4 : Int32} {s0 : Int32} {s1 : Nat} : am_run 269 442 [some (.ref l0), some (.ref l1), some (.ref l2), some (.ref l3), some (.int l4), none, none, none] [.int s0, .ref s1] w = (am_ri 0 w l0 (l4 + (nI 2))).bind fun v => am_run 269 448 [some (.ref l0), some (.ref l1), some (.ref l2), some (.ref l3), some (.int l4), none, none, none] (.int v :: [.int s0, .ref s1]) w := by
  refine (bu (ls'' := [some (.ref l0), some (.ref l1), some (.ref l2), some (.ref l3), some (.int l4), none, none, none]) (st' := [.ref l0, .int s0, .ref s1]) bf269_442 bf269_443 rfl rfl).trans ?_
  refine (bu (ls'' := [some (.ref l0), some (.ref l1), some (.ref l2), some (.ref l3), some (.int l4), none, none, none]) (st' := [.int l4, .ref l0, .int s0, .ref s1]) bf269_443 bf269_445 rfl rfl).trans ?_
  refine (bu (ls'' := [some (.ref l0), some (.ref l1), some (.ref l2), some (.ref l3), some (.int l4), none, none, none]) (st' := [.int (nI 2), .int l4, .ref l0, .int s0, .ref s1]) bf269_445 bf269_446 rfl rfl).trans ?_
  refine (bu (ls'' := [some (.ref l0), some (.ref l1), some (.ref l2), some (.ref l3), some (.int l4), none, none, none]) (st' := [.int (l4 + (nI 2)), .ref l0, .int s0, .ref s1]) bf269_446 bf269_447 rfl rfl).trans ?_
  exact bh bf269_447 bf269_448 rfl (fun _ _ => am_ge_rf w) rfl
theorem bk269_551 {w : am_Wd} {l0 : Nat} {l1 : Nat} {l2 : Nat} {l3 : Nat} {l4 : Int32} {s0 : Int32} {s1 : Nat} : am_run 269 551 [some (.ref l0), some (.ref l1), some (.ref l2), some (.ref l3), some (.int l4), none, none, none] [.int s0, .ref s1] w = (am_ri 0 w l0 (l4 + (nI 2))).bind fun v => am_run 269 557 [some (.ref l0), some (.ref l1), some (.ref l2), some (.ref l3), some (.int l4), none, none, none] (.int v :: [.int s0, .ref s1]) w := by
  refine (bu (ls'' := [some (.ref l0), some (.ref l1), some (.ref l2), some (.ref l3), some (.int l4), none, none, none]) (st' := [.ref l0, .int s0, .ref s1]) bf269_551 bf269_552 rfl rfl).trans ?_
  refine (bu (ls'' := [some (.ref l0), some (.ref l1), some (.ref l2), some (.ref l3), some (.int l4), none, none, none]) (st' := [.int l4, .ref l0, .int s0, .ref s1]) bf269_552 bf269_554 rfl rfl).trans ?_
  refine (bu (ls'' := [some (.ref l0), some (.ref l1), some (.ref l2), some (.ref l3), some (.int l4), none, none, none]) (st' := [.int (nI 2), .int l4, .ref l0, .int s0, .ref s1]) bf269_554 bf269_555 rfl rfl).trans ?_
  refine (bu (ls'' := [some (.ref l0), some (.ref l1), some (.ref l2), some (.ref l3), some (.int l4), none, none, none]) (st' := [.int (l4 + (nI 2)), .ref l0, .int s0, .ref s1]) bf269_555 bf269_556 rfl rfl).trans ?_
  exact bh bf269_556 bf269_557 rfl (fun _ _ => am_ge_rf w) rfl
theorem bk269_643 {w : am_Wd} {l0 : Nat} {l1 : Nat} {l2 : Nat} {l3 : Nat} {l4 : Int32} {s0 : Int32} {s1 : Nat} : am_run 269 643 [some (.ref l0), some (.ref l1), some (.ref l2), some (.ref l3), some (.int l4), none, none, none] [.int s0, .ref s1] w = (am_ri 0 w l0 (l4 + (nI 2))).bind fun v => am_run 269 649 [some (.ref l0), some (.ref l1), some (.ref l2), some (.ref l3), some (.int l4), none, none, none] (.int v :: [.int s0, .ref s1]) w := by
  refine (bu (ls'' := [some (.ref l0), some (.ref l1), some (.ref l2), some (.ref l3), some (.int l4), none, none, none]) (st' := [.ref l0, .int s0, .ref s1]) bf269_643 bf269_644 rfl rfl).trans ?_
  refine (bu (ls'' := [some (.ref l0), some (.ref l1), some (.ref l2), some (.ref l3), some (.int l4), none, none, none]) (st' := [.int l4, .ref l0, .int s0, .ref s1]) bf269_644 bf269_646 rfl rfl).trans ?_
  refine (bu (ls'' := [some (.ref l0), some (.ref l1), some (.ref l2), some (.ref l3), some (.int l4), none, none, none]) (st' := [.int (nI 2), .int l4, .ref l0, .int s0, .ref s1]) bf269_646 bf269_647 rfl rfl).trans ?_
  refine (bu (ls'' := [some (.ref l0), some (.ref l1), some (.ref l2), some (.ref l3), some (.int l4), none, none, none]) (st' := [.int (l4 + (nI 2)), .ref l0, .int s0, .ref s1]) bf269_647 bf269_648 rfl rfl).trans ?_
  exact bh bf269_648 bf269_649 rfl (fun _ _ => am_ge_rf w) rfl
theorem bk269_756 {w : am_Wd} {l0 : Nat} {l1 : Nat} {l2 : Nat} {l3 : Nat} {l4 : Int32} {s0 : Int32} {s1 : Nat} : am_run 269 756 [some (.ref l0), some (.ref l1), some (.ref l2), some (.ref l3), some (.int l4), none, none, none] [.int s0, .ref s1] w = (am_ri 0 w l0 (l4 + (nI 2))).bind fun v => am_run 269 762 [some (.ref l0), some (.ref l1), some (.ref l2), some (.ref l3), some (.int l4), none, none, none] (.int v :: [.int s0, .ref s1]) w := by
  refine (bu (ls'' := [some (.ref l0), some (.ref l1), some (.ref l2), some (.ref l3), some (.int l4), none, none, none]) (st' := [.ref l0, .int s0, .ref s1]) bf269_756 bf269_757 rfl rfl).trans ?_
  refine (bu (ls'' := [some (.ref l0), some (.ref l1), some (.ref l2), some (.ref l3), some (.int l4), none, none, none]) (st' := [.int l4, .ref l0, .int s0, .ref s1]) bf269_757 bf269_759 rfl rfl).trans ?_
  refine (bu (ls'' := [some (.ref l0), some (.ref l1), some (.ref l2), some (.ref l3), some (.int l4), none, none, none]) (st' := [.int (nI 2), .int l4, .ref l0, .int s0, .ref s1]) bf269_759 bf269_760 rfl rfl).trans ?_
  refine (bu (ls'' := [some (.ref l0), some (.ref l1), some (.ref l2), some (.ref l3), some (.int l4), none, none, none]) (st' := [.int (l4 + (nI 2)), .ref l0, .int s0, .ref s1]) bf269_760 bf269_761 rfl rfl).trans ?_
  exact bh bf269_761 bf269_762 rfl (fun _ _ => am_ge_rf w) rfl
theorem bk269_841 {w : am_Wd} {l0 : Nat} {l1 : Nat} {l2 : Nat} {l3 : Nat} {l4 : Int32} {s0 : Int32} {s1 : Nat} : am_run 269 841 [some (.ref l0), some (.ref l1), some (.ref l2), some (.ref l3), some (.int l4), none, none, none] [.int s0, .ref s1] w = (am_ri 0 w l0 (l4 + (nI 2))).bind fun v => am_run 269 847 [some (.ref l0), some (.ref l1), some (.ref l2), some (.ref l3), some (.int l4), none, none, none] (.int v :: [.int s0, .ref s1]) w := by
  refine (bu (ls'' := [some (.ref l0), some (.ref l1), some (.ref l2), some (.ref l3), some (.int l4), none, none, none]) (st' := [.ref l0, .int s0, .ref s1]) bf269_841 bf269_842 rfl rfl).trans ?_
  refine (bu (ls'' := [some (.ref l0), some (.ref l1), some (.ref l2), some (.ref l3), some (.int l4), none, none, none]) (st' := [.int l4, .ref l0, .int s0, .ref s1]) bf269_842 bf269_844 rfl rfl).trans ?_
  refine (bu (ls'' := [some (.ref l0), some (.ref l1), some (.ref l2), some (.ref l3), some (.int l4), none, none, none]) (st' := [.int (nI 2), .int l4, .ref l0, .int s0, .ref s1]) bf269_844 bf269_845 rfl rfl).trans ?_
  refine (bu (ls'' := [some (.ref l0), some (.ref l1), some (.ref l2), some (.ref l3), some (.int l4), none, none, none]) (st' := [.int (l4 + (nI 2)), .ref l0, .int s0, .ref s1]) bf269_845 bf269_846 rfl rfl).trans ?_
  exact bh bf269_846 bf269_847 rfl (fun _ _ => am_ge_rf w) rfl
theorem bk269_926 {w : am_Wd} {l0 : Nat} {l1 : Nat} {l2 : Nat} {l3 : Nat} {l4 : Int32} {s0 : Int32} {s1 : Nat} : am_run 269 926 [some (.ref l0), some (.ref l1), some (.ref l2), some (.ref l3), some (.int l4), none, none, none] [.int s0, .ref s1] w = (am_ri 0 w l0 (l4 + (nI 2))).bind fun v => am_run 269 932 [some (.ref l0), some (.ref l1), some (.ref l2), some (.ref l3), some (.int l4), none, none, none] (.int v :: [.int s0, .ref s1]) w := by
  refine (bu (ls'' := [some (.ref l0), some (.ref l1), some (.ref l2), some (.ref l3), some (.int l4), none, none, none]) (st' := [.ref l0, .int s0, .ref s1]) bf269_926 bf269_927 rfl rfl).trans ?_
  refine (bu (ls'' := [some (.ref l0), some (.ref l1), some (.ref l2), some (.ref l3), some (.int l4), none, none, none]) (st' := [.int l4, .ref l0, .int s0, .ref s1]) bf269_927 bf269_929 rfl rfl).trans ?_
  refine (bu (ls'' := [some (.ref l0), some (.ref l1), some (.ref l2), some (.ref l3), some (.int l4), none, none, none]) (st' := [.int (nI 2), .int l4, .ref l0, .int s0, .ref s1]) bf269_929 bf269_930 rfl rfl).trans ?_
  refine (bu (ls'' := [some (.ref l0), some (.ref l1), some (.ref l2), some (.ref l3), some (.int l4), none, none, none]) (st' := [.int (l4 + (nI 2)), .ref l0, .int s0, .ref s1]) bf269_930 bf269_931 rfl rfl).trans ?_
  exact bh bf269_931 bf269_932 rfl (fun _ _ => am_ge_rf w) rfl
theorem bk269_995 {w : am_Wd} {l0 : Nat} {l1 : Nat} {l2 : Nat} {l3 : Nat} {l4 : Int32} {s0 : Int32} {s1 : Nat} : am_run 269 995 [some (.ref l0), some (.ref l1), some (.ref l2), some (.ref l3), some (.int l4), none, none, none] [.int s0, .ref s1] w = (am_x 188 [.ref s1, .int s0, .ref l3] w).bind fun r => bct r fun v w' => am_run 269 999 [some (.ref l0), some (.ref l1), some (.ref l2), some (.ref l3), some (.int l4), none, none, none] (v.toList ++ []) w' := by
  refine (bu (ls'' := [some (.ref l0), some (.ref l1), some (.ref l2), some (.ref l3), some (.int l4), none, none, none]) (st' := [.ref l3, .int s0, .ref s1]) bf269_995 bf269_996 rfl rfl).trans ?_
  exact bkS bf269_996 bf269_999 rfl (by decide +kernel) (Nat.le_of_ble_eq_true rfl) rfl (bhd rfl)
theorem bk269_1052 {w : am_Wd} {l0 : Nat} {l1 : Nat} {l2 : Nat} {l3 : Nat} {l4 : Int32} {s0 : Int32} {s1 : Nat} : am_run 269 1052 [some (.ref l0), some (.ref l1), some (.ref l2), some (.ref l3), some (.int l4), none, none, none] [.int s0, .ref s1] w = (am_ri 0 w l0 (l4 + (nI 2))).bind fun v => am_run 269 1058 [some (.ref l0), some (.ref l1), some (.ref l2), some (.ref l3), some (.int l4), none, none, none] (.int v :: [.int s0, .ref s1]) w := by
  refine (bu (ls'' := [some (.ref l0), some (.ref l1), some (.ref l2), some (.ref l3), some (.int l4), none, none, none]) (st' := [.ref l0, .int s0, .ref s1]) bf269_1052 bf269_1053 rfl rfl).trans ?_
  refine (bu (ls'' := [some (.ref l0), some (.ref l1), some (.ref l2), some (.ref l3), some (.int l4), none, none, none]) (st' := [.int l4, .ref l0, .int s0, .ref s1]) bf269_1053 bf269_1055 rfl rfl).trans ?_
  refine (bu (ls'' := [some (.ref l0), some (.ref l1), some (.ref l2), some (.ref l3), some (.int l4), none, none, none]) (st' := [.int (nI 2), .int l4, .ref l0, .int s0, .ref s1]) bf269_1055 bf269_1056 rfl rfl).trans ?_
  refine (bu (ls'' := [some (.ref l0), some (.ref l1), some (.ref l2), some (.ref l3), some (.int l4), none, none, none]) (st' := [.int (l4 + (nI 2)), .ref l0, .int s0, .ref s1]) bf269_1056 bf269_1057 rfl rfl).trans ?_
  exact bh bf269_1057 bf269_1058 rfl (fun _ _ => am_ge_rf w) rfl
theorem bk269_1121 {w : am_Wd} {l0 : Nat} {l1 : Nat} {l2 : Nat} {l3 : Nat} {l4 : Int32} {s0 : Int32} {s1 : Nat} : am_run 269 1121 [some (.ref l0), some (.ref l1), some (.ref l2), some (.ref l3), some (.int l4), none, none, none] [.int s0, .ref s1] w = (am_x 189 [.ref s1, .int s0, .ref l3] w).bind fun r => bct r fun v w' => am_run 269 1125 [some (.ref l0), some (.ref l1), some (.ref l2), some (.ref l3), some (.int l4), none, none, none] (v.toList ++ []) w' := by
  refine (bu (ls'' := [some (.ref l0), some (.ref l1), some (.ref l2), some (.ref l3), some (.int l4), none, none, none]) (st' := [.ref l3, .int s0, .ref s1]) bf269_1121 bf269_1122 rfl rfl).trans ?_
  exact bkS bf269_1122 bf269_1125 rfl (by decide +kernel) (Nat.le_of_ble_eq_true rfl) rfl (bhd rfl)
theorem bk269_1175 {w : am_Wd} {l0 : Nat} {l1 : Nat} {l2 : Nat} {l3 : Nat} {l4 : Int32} {s0 : Int32} : am_run 269 1175 [some (.ref l0), some (.ref l1), some (.ref l2), some (.ref l3), some (.int l4), none, none, none] [.int s0] w = (am_kf w l2 11).bind fun _ => (am_x 47 [.ref l2] w).bind fun r => bct r fun v w' => am_run 269 1179 [some (.ref l0), some (.ref l1), some (.ref l2), some (.ref l3), some (.int l4), none, none, none] (v.toList ++ [.int s0]) w' := by
  refine (bu (ls'' := [some (.ref l0), some (.ref l1), some (.ref l2), some (.ref l3), some (.int l4), none, none, none]) (st' := [.ref l2, .int s0]) bf269_1175 bf269_1176 rfl rfl).trans ?_
  exact bkV bf269_1176 bf269_1179 rfl (by decide +kernel) (Nat.le_of_ble_eq_true rfl) rfl (bhd rfl)
theorem bk269_1191 {w : am_Wd} {l0 : Nat} {l1 : Nat} {l2 : Nat} {l3 : Nat} {l4 : Int32} {s0 : Int32} {s1 : Nat} : am_run 269 1191 [some (.ref l0), some (.ref l1), some (.ref l2), some (.ref l3), some (.int l4), none, none, none] [.int s0, .ref s1] w = (am_ri 0 w l0 (l4 + (nI 2))).bind fun v => am_run 269 1197 [some (.ref l0), some (.ref l1), some (.ref l2), some (.ref l3), some (.int l4), none, none, none] (.int v :: [.int s0, .ref s1]) w := by
  refine (bu (ls'' := [some (.ref l0), some (.ref l1), some (.ref l2), some (.ref l3), some (.int l4), none, none, none]) (st' := [.ref l0, .int s0, .ref s1]) bf269_1191 bf269_1192 rfl rfl).trans ?_
  refine (bu (ls'' := [some (.ref l0), some (.ref l1), some (.ref l2), some (.ref l3), some (.int l4), none, none, none]) (st' := [.int l4, .ref l0, .int s0, .ref s1]) bf269_1192 bf269_1194 rfl rfl).trans ?_
  refine (bu (ls'' := [some (.ref l0), some (.ref l1), some (.ref l2), some (.ref l3), some (.int l4), none, none, none]) (st' := [.int (nI 2), .int l4, .ref l0, .int s0, .ref s1]) bf269_1194 bf269_1195 rfl rfl).trans ?_
  refine (bu (ls'' := [some (.ref l0), some (.ref l1), some (.ref l2), some (.ref l3), some (.int l4), none, none, none]) (st' := [.int (l4 + (nI 2)), .ref l0, .int s0, .ref s1]) bf269_1195 bf269_1196 rfl rfl).trans ?_
  exact bh bf269_1196 bf269_1197 rfl (fun _ _ => am_ge_rf w) rfl
theorem bk269_1272 {w : am_Wd} {l0 : Nat} {l1 : Nat} {l2 : Nat} {l3 : Nat} {l4 : Int32} {s0 : Int32} {s1 : Nat} : am_run 269 1272 [some (.ref l0), some (.ref l1), some (.ref l2), some (.ref l3), some (.int l4), none, none, none] [.int s0, .ref s1] w = (am_ri 0 w l0 (l4 + (nI 2))).bind fun v => am_run 269 1278 [some (.ref l0), some (.ref l1), some (.ref l2), some (.ref l3), some (.int l4), none, none, none] (.int v :: [.int s0, .ref s1]) w := by
  refine (bu (ls'' := [some (.ref l0), some (.ref l1), some (.ref l2), some (.ref l3), some (.int l4), none, none, none]) (st' := [.ref l0, .int s0, .ref s1]) bf269_1272 bf269_1273 rfl rfl).trans ?_
  refine (bu (ls'' := [some (.ref l0), some (.ref l1), some (.ref l2), some (.ref l3), some (.int l4), none, none, none]) (st' := [.int l4, .ref l0, .int s0, .ref s1]) bf269_1273 bf269_1275 rfl rfl).trans ?_
  refine (bu (ls'' := [some (.ref l0), some (.ref l1), some (.ref l2), some (.ref l3), some (.int l4), none, none, none]) (st' := [.int (nI 2), .int l4, .ref l0, .int s0, .ref s1]) bf269_1275 bf269_1276 rfl rfl).trans ?_
  refine (bu (ls'' := [some (.ref l0), some (.ref l1), some (.ref l2), some (.ref l3), some (.int l4), none, none, none]) (st' := [.int (l4 + (nI 2)), .ref l0, .int s0, .ref s1]) bf269_1276 bf269_1277 rfl rfl).trans ?_
  exact bh bf269_1277 bf269_1278 rfl (fun _ _ => am_ge_rf w) rfl
theorem bk269_1341 {w : am_Wd} {l0 : Nat} {l1 : Nat} {l2 : Nat} {l3 : Nat} {l4 : Int32} {s0 : Int32} {s1 : Nat} : am_run 269 1341 [some (.ref l0), some (.ref l1), some (.ref l2), some (.ref l3), some (.int l4), none, none, none] [.int s0, .ref s1] w = (am_x 190 [.ref s1, .int s0, .ref l3] w).bind fun r => bct r fun v w' => am_run 269 1345 [some (.ref l0), some (.ref l1), some (.ref l2), some (.ref l3), some (.int l4), none, none, none] (v.toList ++ []) w' := by
  refine (bu (ls'' := [some (.ref l0), some (.ref l1), some (.ref l2), some (.ref l3), some (.int l4), none, none, none]) (st' := [.ref l3, .int s0, .ref s1]) bf269_1341 bf269_1342 rfl rfl).trans ?_
  exact bkS bf269_1342 bf269_1345 rfl (by decide +kernel) (Nat.le_of_ble_eq_true rfl) rfl (bhd rfl)
theorem bk269_1398 {w : am_Wd} {l0 : Nat} {l1 : Nat} {l2 : Nat} {l3 : Nat} {l4 : Int32} {s0 : Int32} {s1 : Nat} : am_run 269 1398 [some (.ref l0), some (.ref l1), some (.ref l2), some (.ref l3), some (.int l4), none, none, none] [.int s0, .ref s1] w = (am_x 257 [.ref s1, .int s0, .ref l3] w).bind fun r => bct r fun v w' => am_run 269 1402 [some (.ref l0), some (.ref l1), some (.ref l2), some (.ref l3), some (.int l4), none, none, none] (v.toList ++ []) w' := by
  refine (bu (ls'' := [some (.ref l0), some (.ref l1), some (.ref l2), some (.ref l3), some (.int l4), none, none, none]) (st' := [.ref l3, .int s0, .ref s1]) bf269_1398 bf269_1399 rfl rfl).trans ?_
  exact bkS bf269_1399 bf269_1402 rfl (by decide +kernel) (Nat.le_of_ble_eq_true rfl) rfl (bhd rfl)
theorem bk269_1456 {w : am_Wd} {l0 : Nat} {l1 : Nat} {l2 : Nat} {l3 : Nat} {l4 : Int32} {s0 : Int32} {s1 : Nat} : am_run 269 1456 [some (.ref l0), some (.ref l1), some (.ref l2), some (.ref l3), some (.int l4), none, none, none] [.int s0, .ref s1] w = (am_ri 0 w l0 (l4 + (nI 2))).bind fun v => am_run 269 1462 [some (.ref l0), some (.ref l1), some (.ref l2), some (.ref l3), some (.int l4), none, none, none] (.int v :: [.int s0, .ref s1]) w := by
  refine (bu (ls'' := [some (.ref l0), some (.ref l1), some (.ref l2), some (.ref l3), some (.int l4), none, none, none]) (st' := [.ref l0, .int s0, .ref s1]) bf269_1456 bf269_1457 rfl rfl).trans ?_
  refine (bu (ls'' := [some (.ref l0), some (.ref l1), some (.ref l2), some (.ref l3), some (.int l4), none, none, none]) (st' := [.int l4, .ref l0, .int s0, .ref s1]) bf269_1457 bf269_1459 rfl rfl).trans ?_
  refine (bu (ls'' := [some (.ref l0), some (.ref l1), some (.ref l2), some (.ref l3), some (.int l4), none, none, none]) (st' := [.int (nI 2), .int l4, .ref l0, .int s0, .ref s1]) bf269_1459 bf269_1460 rfl rfl).trans ?_
  refine (bu (ls'' := [some (.ref l0), some (.ref l1), some (.ref l2), some (.ref l3), some (.int l4), none, none, none]) (st' := [.int (l4 + (nI 2)), .ref l0, .int s0, .ref s1]) bf269_1460 bf269_1461 rfl rfl).trans ?_
  exact bh bf269_1461 bf269_1462 rfl (fun _ _ => am_ge_rf w) rfl
theorem bk269_1537 {w : am_Wd} {l0 : Nat} {l1 : Nat} {l2 : Nat} {l3 : Nat} {l4 : Int32} {s0 : Int32} {s1 : Nat} : am_run 269 1537 [some (.ref l0), some (.ref l1), some (.ref l2), some (.ref l3), some (.int l4), none, none, none] [.int s0, .ref s1] w = (am_ri 0 w l0 (l4 + (nI 2))).bind fun v => am_run 269 1543 [some (.ref l0), some (.ref l1), some (.ref l2), some (.ref l3), some (.int l4), none, none, none] (.int v :: [.int s0, .ref s1]) w := by
  refine (bu (ls'' := [some (.ref l0), some (.ref l1), some (.ref l2), some (.ref l3), some (.int l4), none, none, none]) (st' := [.ref l0, .int s0, .ref s1]) bf269_1537 bf269_1538 rfl rfl).trans ?_
  refine (bu (ls'' := [some (.ref l0), some (.ref l1), some (.ref l2), some (.ref l3), some (.int l4), none, none, none]) (st' := [.int l4, .ref l0, .int s0, .ref s1]) bf269_1538 bf269_1540 rfl rfl).trans ?_
  refine (bu (ls'' := [some (.ref l0), some (.ref l1), some (.ref l2), some (.ref l3), some (.int l4), none, none, none]) (st' := [.int (nI 2), .int l4, .ref l0, .int s0, .ref s1]) bf269_1540 bf269_1541 rfl rfl).trans ?_
  refine (bu (ls'' := [some (.ref l0), some (.ref l1), some (.ref l2), some (.ref l3), some (.int l4), none, none, none]) (st' := [.int (l4 + (nI 2)), .ref l0, .int s0, .ref s1]) bf269_1541 bf269_1542 rfl rfl).trans ?_
  exact bh bf269_1542 bf269_1543 rfl (fun _ _ => am_ge_rf w) rfl
theorem bk269_1613 {w : am_Wd} {l0 : Nat} {l1 : Nat} {l2 : Nat} {l3 : Nat} {l4 : Int32} {s0 : Int32} {s1 : Nat} : am_run 269 1613 [some (.ref l0), some (.ref l1), some (.ref l2), some (.ref l3), some (.int l4), none, none, none] [.int s0, .ref s1] w = (am_ri 0 w l0 (l4 + (nI 2))).bind fun v => am_run 269 1619 [some (.ref l0), some (.ref l1), some (.ref l2), some (.ref l3), some (.int l4), none, none, none] (.int v :: [.int s0, .ref s1]) w := by
  refine (bu (ls'' := [some (.ref l0), some (.ref l1), some (.ref l2), some (.ref l3), some (.int l4), none, none, none]) (st' := [.ref l0, .int s0, .ref s1]) bf269_1613 bf269_1614 rfl rfl).trans ?_
  refine (bu (ls'' := [some (.ref l0), some (.ref l1), some (.ref l2), some (.ref l3), some (.int l4), none, none, none]) (st' := [.int l4, .ref l0, .int s0, .ref s1]) bf269_1614 bf269_1616 rfl rfl).trans ?_
  refine (bu (ls'' := [some (.ref l0), some (.ref l1), some (.ref l2), some (.ref l3), some (.int l4), none, none, none]) (st' := [.int (nI 2), .int l4, .ref l0, .int s0, .ref s1]) bf269_1616 bf269_1617 rfl rfl).trans ?_
  refine (bu (ls'' := [some (.ref l0), some (.ref l1), some (.ref l2), some (.ref l3), some (.int l4), none, none, none]) (st' := [.int (l4 + (nI 2)), .ref l0, .int s0, .ref s1]) bf269_1617 bf269_1618 rfl rfl).trans ?_
  exact bh bf269_1618 bf269_1619 rfl (fun _ _ => am_ge_rf w) rfl
theorem bk269_1681 {w : am_Wd} {l0 : Nat} {l1 : Nat} {l2 : Nat} {l3 : Nat} {l4 : Int32} {s0 : Int32} {s1 : Nat} : am_run 269 1681 [some (.ref l0), some (.ref l1), some (.ref l2), some (.ref l3), some (.int l4), none, none, none] [.int s0, .ref s1] w = (am_ri 0 w l0 (l4 + (nI 2))).bind fun v => am_run 269 1687 [some (.ref l0), some (.ref l1), some (.ref l2), some (.ref l3), some (.int l4), none, none, none] (.int v :: [.int s0, .ref s1]) w := by
  refine (bu (ls'' := [some (.ref l0), some (.ref l1), some (.ref l2), some (.ref l3), some (.int l4), none, none, none]) (st' := [.ref l0, .int s0, .ref s1]) bf269_1681 bf269_1682 rfl rfl).trans ?_
  refine (bu (ls'' := [some (.ref l0), some (.ref l1), some (.ref l2), some (.ref l3), some (.int l4), none, none, none]) (st' := [.int l4, .ref l0, .int s0, .ref s1]) bf269_1682 bf269_1684 rfl rfl).trans ?_
  refine (bu (ls'' := [some (.ref l0), some (.ref l1), some (.ref l2), some (.ref l3), some (.int l4), none, none, none]) (st' := [.int (nI 2), .int l4, .ref l0, .int s0, .ref s1]) bf269_1684 bf269_1685 rfl rfl).trans ?_
  refine (bu (ls'' := [some (.ref l0), some (.ref l1), some (.ref l2), some (.ref l3), some (.int l4), none, none, none]) (st' := [.int (l4 + (nI 2)), .ref l0, .int s0, .ref s1]) bf269_1685 bf269_1686 rfl rfl).trans ?_
  exact bh bf269_1686 bf269_1687 rfl (fun _ _ => am_ge_rf w) rfl
theorem bk269_1762 {w : am_Wd} {l0 : Nat} {l1 : Nat} {l2 : Nat} {l3 : Nat} {l4 : Int32} {s0 : Int32} {s1 : Nat} : am_run 269 1762 [some (.ref l0), some (.ref l1), some (.ref l2), some (.ref l3), some (.int l4), none, none, none] [.int s0, .ref s1] w = (am_ri 0 w l0 (l4 + (nI 2))).bind fun v => am_run 269 1768 [some (.ref l0), some (.ref l1), some (.ref l2), some (.ref l3), some (.int l4), none, none, none] (.int v :: [.int s0, .ref s1]) w := by
  refine (bu (ls'' := [some (.ref l0), some (.ref l1), some (.ref l2), some (.ref l3), some (.int l4), none, none, none]) (st' := [.ref l0, .int s0, .ref s1]) bf269_1762 bf269_1763 rfl rfl).trans ?_
  refine (bu (ls'' := [some (.ref l0), some (.ref l1), some (.ref l2), some (.ref l3), some (.int l4), none, none, none]) (st' := [.int l4, .ref l0, .int s0, .ref s1]) bf269_1763 bf269_1765 rfl rfl).trans ?_
  refine (bu (ls'' := [some (.ref l0), some (.ref l1), some (.ref l2), some (.ref l3), some (.int l4), none, none, none]) (st' := [.int (nI 2), .int l4, .ref l0, .int s0, .ref s1]) bf269_1765 bf269_1766 rfl rfl).trans ?_
  refine (bu (ls'' := [some (.ref l0), some (.ref l1), some (.ref l2), some (.ref l3), some (.int l4), none, none, none]) (st' := [.int (l4 + (nI 2)), .ref l0, .int s0, .ref s1]) bf269_1766 bf269_1767 rfl rfl).trans ?_
  exact bh bf269_1767 bf269_1768 rfl (fun _ _ => am_ge_rf w) rfl
theorem bk269_1831 {w : am_Wd} {l0 : Nat} {l1 : Nat} {l2 : Nat} {l3 : Nat} {l4 : Int32} {s0 : Int32} {s1 : Nat} : am_run 269 1831 [some (.ref l0), some (.ref l1), some (.ref l2), some (.ref l3), some (.int l4), none, none, none] [.int s0, .ref s1] w = (am_x 148 [.ref s1, .int s0, .ref l3] w).bind fun r => bct r fun v w' => am_run 269 1835 [some (.ref l0), some (.ref l1), some (.ref l2), some (.ref l3), some (.int l4), none, none, none] (v.toList ++ []) w' := by
  refine (bu (ls'' := [some (.ref l0), some (.ref l1), some (.ref l2), some (.ref l3), some (.int l4), none, none, none]) (st' := [.ref l3, .int s0, .ref s1]) bf269_1831 bf269_1832 rfl rfl).trans ?_
  exact bkS bf269_1832 bf269_1835 rfl (by decide +kernel) (Nat.le_of_ble_eq_true rfl) rfl (bhd rfl)
theorem bk269_1907 {w : am_Wd} {l0 : Nat} {l1 : Nat} {l2 : Nat} {l3 : Nat} {l4 : Int32} {s0 : Int32} {s1 : Nat} : am_run 269 1907 [some (.ref l0), some (.ref l1), some (.ref l2), some (.ref l3), some (.int l4), none, none, none] [.int s0, .ref s1] w = (am_ri 0 w l0 (l4 + (nI 2))).bind fun v => am_run 269 1913 [some (.ref l0), some (.ref l1), some (.ref l2), some (.ref l3), some (.int l4), none, none, none] (.int v :: [.int s0, .ref s1]) w := by
  refine (bu (ls'' := [some (.ref l0), some (.ref l1), some (.ref l2), some (.ref l3), some (.int l4), none, none, none]) (st' := [.ref l0, .int s0, .ref s1]) bf269_1907 bf269_1908 rfl rfl).trans ?_
  refine (bu (ls'' := [some (.ref l0), some (.ref l1), some (.ref l2), some (.ref l3), some (.int l4), none, none, none]) (st' := [.int l4, .ref l0, .int s0, .ref s1]) bf269_1908 bf269_1910 rfl rfl).trans ?_
  refine (bu (ls'' := [some (.ref l0), some (.ref l1), some (.ref l2), some (.ref l3), some (.int l4), none, none, none]) (st' := [.int (nI 2), .int l4, .ref l0, .int s0, .ref s1]) bf269_1910 bf269_1911 rfl rfl).trans ?_
  refine (bu (ls'' := [some (.ref l0), some (.ref l1), some (.ref l2), some (.ref l3), some (.int l4), none, none, none]) (st' := [.int (l4 + (nI 2)), .ref l0, .int s0, .ref s1]) bf269_1911 bf269_1912 rfl rfl).trans ?_
  exact bh bf269_1912 bf269_1913 rfl (fun _ _ => am_ge_rf w) rfl
theorem bk269_1976 {w : am_Wd} {l0 : Nat} {l1 : Nat} {l2 : Nat} {l3 : Nat} {l4 : Int32} {s0 : Int32} {s1 : Nat} : am_run 269 1976 [some (.ref l0), some (.ref l1), some (.ref l2), some (.ref l3), some (.int l4), none, none, none] [.int s0, .ref s1] w = (am_x 236 [.ref s1, .int s0, .ref l3] w).bind fun r => bct r fun v w' => am_run 269 1980 [some (.ref l0), some (.ref l1), some (.ref l2), some (.ref l3), some (.int l4), none, none, none] (v.toList ++ []) w' := by
  refine (bu (ls'' := [some (.ref l0), some (.ref l1), some (.ref l2), some (.ref l3), some (.int l4), none, none, none]) (st' := [.ref l3, .int s0, .ref s1]) bf269_1976 bf269_1977 rfl rfl).trans ?_
  exact bkS bf269_1977 bf269_1980 rfl (by decide +kernel) (Nat.le_of_ble_eq_true rfl) rfl (bhd rfl)
theorem bk269_2033 {w : am_Wd} {l0 : Nat} {l1 : Nat} {l2 : Nat} {l3 : Nat} {l4 : Int32} {s0 : Int32} {s1 : Nat} : am_run 269 2033 [some (.ref l0), some (.ref l1), some (.ref l2), some (.ref l3), some (.int l4), none, none, none] [.int s0, .ref s1] w = (am_ri 0 w l0 (l4 + (nI 2))).bind fun v => am_run 269 2039 [some (.ref l0), some (.ref l1), some (.ref l2), some (.ref l3), some (.int l4), none, none, none] (.int v :: [.int s0, .ref s1]) w := by
  refine (bu (ls'' := [some (.ref l0), some (.ref l1), some (.ref l2), some (.ref l3), some (.int l4), none, none, none]) (st' := [.ref l0, .int s0, .ref s1]) bf269_2033 bf269_2034 rfl rfl).trans ?_
  refine (bu (ls'' := [some (.ref l0), some (.ref l1), some (.ref l2), some (.ref l3), some (.int l4), none, none, none]) (st' := [.int l4, .ref l0, .int s0, .ref s1]) bf269_2034 bf269_2036 rfl rfl).trans ?_
  refine (bu (ls'' := [some (.ref l0), some (.ref l1), some (.ref l2), some (.ref l3), some (.int l4), none, none, none]) (st' := [.int (nI 2), .int l4, .ref l0, .int s0, .ref s1]) bf269_2036 bf269_2037 rfl rfl).trans ?_
  refine (bu (ls'' := [some (.ref l0), some (.ref l1), some (.ref l2), some (.ref l3), some (.int l4), none, none, none]) (st' := [.int (l4 + (nI 2)), .ref l0, .int s0, .ref s1]) bf269_2037 bf269_2038 rfl rfl).trans ?_
  exact bh bf269_2038 bf269_2039 rfl (fun _ _ => am_ge_rf w) rfl
theorem bk269_2102 {w : am_Wd} {l0 : Nat} {l1 : Nat} {l2 : Nat} {l3 : Nat} {l4 : Int32} {s0 : Int32} {s1 : Nat} : am_run 269 2102 [some (.ref l0), some (.ref l1), some (.ref l2), some (.ref l3), some (.int l4), none, none, none] [.int s0, .ref s1] w = (am_ri 0 w l0 (l4 + (nI 2))).bind fun v => am_run 269 2108 [some (.ref l0), some (.ref l1), some (.ref l2), some (.ref l3), some (.int l4), none, none, none] (.int v :: [.int s0, .ref s1]) w := by
  refine (bu (ls'' := [some (.ref l0), some (.ref l1), some (.ref l2), some (.ref l3), some (.int l4), none, none, none]) (st' := [.ref l0, .int s0, .ref s1]) bf269_2102 bf269_2103 rfl rfl).trans ?_
  refine (bu (ls'' := [some (.ref l0), some (.ref l1), some (.ref l2), some (.ref l3), some (.int l4), none, none, none]) (st' := [.int l4, .ref l0, .int s0, .ref s1]) bf269_2103 bf269_2105 rfl rfl).trans ?_
  refine (bu (ls'' := [some (.ref l0), some (.ref l1), some (.ref l2), some (.ref l3), some (.int l4), none, none, none]) (st' := [.int (nI 2), .int l4, .ref l0, .int s0, .ref s1]) bf269_2105 bf269_2106 rfl rfl).trans ?_
  refine (bu (ls'' := [some (.ref l0), some (.ref l1), some (.ref l2), some (.ref l3), some (.int l4), none, none, none]) (st' := [.int (l4 + (nI 2)), .ref l0, .int s0, .ref s1]) bf269_2106 bf269_2107 rfl rfl).trans ?_
  exact bh bf269_2107 bf269_2108 rfl (fun _ _ => am_ge_rf w) rfl
theorem bk269_2168 {w : am_Wd} {l0 : Nat} {l1 : Nat} {l2 : Nat} {l3 : Nat} {l4 : Int32} {s0 : Int32} : am_run 269 2168 [some (.ref l0), some (.ref l1), some (.ref l2), some (.ref l3), some (.int l4), none, none, none] [.int s0] w = (am_kf w l2 11).bind fun _ => (am_x 215 [.ref l2] w).bind fun r => bct r fun v w' => am_run 269 2172 [some (.ref l0), some (.ref l1), some (.ref l2), some (.ref l3), some (.int l4), none, none, none] (v.toList ++ [.int s0]) w' := by
  refine (bu (ls'' := [some (.ref l0), some (.ref l1), some (.ref l2), some (.ref l3), some (.int l4), none, none, none]) (st' := [.ref l2, .int s0]) bf269_2168 bf269_2169 rfl rfl).trans ?_
  exact bkV bf269_2169 bf269_2172 rfl (by decide +kernel) (Nat.le_of_ble_eq_true rfl) rfl (bhd rfl)
theorem bk269_2181 {w : am_Wd} {l0 : Nat} {l1 : Nat} {l2 : Nat} {l3 : Nat} {l4 : Int32} {s0 : Int64} : am_run 269 2181 [some (.ref l0), some (.ref l1), some (.ref l2), some (.ref l3), some (.int l4), none, none, none] [.long s0] w = (am_kf w l2 11).bind fun _ => (am_x 265 [.ref l2] w).bind fun r => bct r fun v w' => am_run 269 2185 [some (.ref l0), some (.ref l1), some (.ref l2), some (.ref l3), some (.int l4), none, none, none] (v.toList ++ [.long s0]) w' := by
  refine (bu (ls'' := [some (.ref l0), some (.ref l1), some (.ref l2), some (.ref l3), some (.int l4), none, none, none]) (st' := [.ref l2, .long s0]) bf269_2181 bf269_2182 rfl rfl).trans ?_
  exact bkV bf269_2182 bf269_2185 rfl (by decide +kernel) (Nat.le_of_ble_eq_true rfl) rfl (bhd rfl)
theorem bk269_185 {w : am_Wd} {l0 : Nat} {l1 : Nat} {l2 : Nat} {l3 : Nat} {l4 : Int32} {s0 : Int32} {s1 : Int32} {s2 : Nat} : am_run 269 185 [some (.ref l0), some (.ref l1), some (.ref l2), some (.ref l3), some (.int l4), none, none, none] [.int s0, .int s1, .ref s2] w = (am_ri 0 w l0 (l4 + (nI 3))).bind fun v => am_run 269 191 [some (.ref l0), some (.ref l1), some (.ref l2), some (.ref l3), some (.int l4), none, none, none] (.int v :: [.int s0, .int s1, .ref s2]) w := by
  refine (bu (ls'' := [some (.ref l0), some (.ref l1), some (.ref l2), some (.ref l3), some (.int l4), none, none, none]) (st' := [.ref l0, .int s0, .int s1, .ref s2]) bf269_185 bf269_186 rfl rfl).trans ?_
  refine (bu (ls'' := [some (.ref l0), some (.ref l1), some (.ref l2), some (.ref l3), some (.int l4), none, none, none]) (st' := [.int l4, .ref l0, .int s0, .int s1, .ref s2]) bf269_186 bf269_188 rfl rfl).trans ?_
  refine (bu (ls'' := [some (.ref l0), some (.ref l1), some (.ref l2), some (.ref l3), some (.int l4), none, none, none]) (st' := [.int (nI 3), .int l4, .ref l0, .int s0, .int s1, .ref s2]) bf269_188 bf269_189 rfl rfl).trans ?_
  refine (bu (ls'' := [some (.ref l0), some (.ref l1), some (.ref l2), some (.ref l3), some (.int l4), none, none, none]) (st' := [.int (l4 + (nI 3)), .ref l0, .int s0, .int s1, .ref s2]) bf269_189 bf269_190 rfl rfl).trans ?_
  exact bh bf269_190 bf269_191 rfl (fun _ _ => am_ge_rf w) rfl
theorem bk269_276 {w : am_Wd} {l0 : Nat} {l1 : Nat} {l2 : Nat} {l3 : Nat} {l4 : Int32} {s0 : Int32} : am_run 269 276 [some (.ref l0), some (.ref l1), some (.ref l2), some (.ref l3), some (.int l4), none, none, none] [.int s0] w = (am_ri 0 w l0 (l4 + (nI 1))).bind fun v => am_run 269 285 [some (.ref l0), some (.ref l1), some (.ref l2), some (.ref l3), some (.int l4), some (.int s0), none, none] (.int v :: [.ref l2]) w := by
  refine (bu (ls'' := [some (.ref l0), some (.ref l1), some (.ref l2), some (.ref l3), some (.int l4), some (.int s0), none, none]) (st' := []) bf269_276 bf269_278 rfl rfl).trans ?_
  refine (bu (ls'' := [some (.ref l0), some (.ref l1), some (.ref l2), some (.ref l3), some (.int l4), some (.int s0), none, none]) (st' := [.ref l2]) bf269_278 bf269_279 rfl rfl).trans ?_
  refine (bu (ls'' := [some (.ref l0), some (.ref l1), some (.ref l2), some (.ref l3), some (.int l4), some (.int s0), none, none]) (st' := [.ref l0, .ref l2]) bf269_279 bf269_280 rfl rfl).trans ?_
  refine (bu (ls'' := [some (.ref l0), some (.ref l1), some (.ref l2), some (.ref l3), some (.int l4), some (.int s0), none, none]) (st' := [.int l4, .ref l0, .ref l2]) bf269_280 bf269_282 rfl rfl).trans ?_
  refine (bu (ls'' := [some (.ref l0), some (.ref l1), some (.ref l2), some (.ref l3), some (.int l4), some (.int s0), none, none]) (st' := [.int (nI 1), .int l4, .ref l0, .ref l2]) bf269_282 bf269_283 rfl rfl).trans ?_
  refine (bu (ls'' := [some (.ref l0), some (.ref l1), some (.ref l2), some (.ref l3), some (.int l4), some (.int s0), none, none]) (st' := [.int (l4 + (nI 1)), .ref l0, .ref l2]) bf269_283 bf269_284 rfl rfl).trans ?_
  exact bh bf269_284 bf269_285 rfl (fun _ _ => am_ge_rf w) rfl
theorem bk269_335 {w : am_Wd} {l0 : Nat} {l1 : Nat} {l2 : Nat} {l3 : Nat} {l4 : Int32} {s0 : Int32} {s1 : Int32} {s2 : Nat} : am_run 269 335 [some (.ref l0), some (.ref l1), some (.ref l2), some (.ref l3), some (.int l4), none, none, none] [.int s0, .int s1, .ref s2] w = if s0 = nI 0 then am_run 269 342 [some (.ref l0), some (.ref l1), some (.ref l2), some (.ref l3), some (.int l4), none, none, none] [.int s1, .ref s2] w else am_run 269 338 [some (.ref l0), some (.ref l1), some (.ref l2), some (.ref l3), some (.int l4), none, none, none] [.int s1, .ref s2] w := by
  exact bifc bf269_335 rfl bf269_342 bf269_338 rfl rfl rfl
theorem bk269_448 {w : am_Wd} {l0 : Nat} {l1 : Nat} {l2 : Nat} {l3 : Nat} {l4 : Int32} {s0 : Int32} {s1 : Int32} {s2 : Nat} : am_run 269 448 [some (.ref l0), some (.ref l1), some (.ref l2), some (.ref l3), some (.int l4), none, none, none] [.int s0, .int s1, .ref s2] w = (am_ri 0 w l0 (l4 + (nI 3))).bind fun v => am_run 269 454 [some (.ref l0), some (.ref l1), some (.ref l2), some (.ref l3), some (.int l4), none, none, none] (.int v :: [.int s0, .int s1, .ref s2]) w := by
  refine (bu (ls'' := [some (.ref l0), some (.ref l1), some (.ref l2), some (.ref l3), some (.int l4), none, none, none]) (st' := [.ref l0, .int s0, .int s1, .ref s2]) bf269_448 bf269_449 rfl rfl).trans ?_
  refine (bu (ls'' := [some (.ref l0), some (.ref l1), some (.ref l2), some (.ref l3), some (.int l4), none, none, none]) (st' := [.int l4, .ref l0, .int s0, .int s1, .ref s2]) bf269_449 bf269_451 rfl rfl).trans ?_
  refine (bu (ls'' := [some (.ref l0), some (.ref l1), some (.ref l2), some (.ref l3), some (.int l4), none, none, none]) (st' := [.int (nI 3), .int l4, .ref l0, .int s0, .int s1, .ref s2]) bf269_451 bf269_452 rfl rfl).trans ?_
  refine (bu (ls'' := [some (.ref l0), some (.ref l1), some (.ref l2), some (.ref l3), some (.int l4), none, none, none]) (st' := [.int (l4 + (nI 3)), .ref l0, .int s0, .int s1, .ref s2]) bf269_452 bf269_453 rfl rfl).trans ?_
  exact bh bf269_453 bf269_454 rfl (fun _ _ => am_ge_rf w) rfl
theorem bk269_557 {w : am_Wd} {l0 : Nat} {l1 : Nat} {l2 : Nat} {l3 : Nat} {l4 : Int32} {s0 : Int32} {s1 : Int32} {s2 : Nat} : am_run 269 557 [some (.ref l0), some (.ref l1), some (.ref l2), some (.ref l3), some (.int l4), none, none, none] [.int s0, .int s1, .ref s2] w = if s0 = nI 0 then am_run 269 564 [some (.ref l0), some (.ref l1), some (.ref l2), some (.ref l3), some (.int l4), none, none, none] [.int s1, .ref s2] w else am_run 269 560 [some (.ref l0), some (.ref l1), some (.ref l2), some (.ref l3), some (.int l4), none, none, none] [.int s1, .ref s2] w := by
  exact bifc bf269_557 rfl bf269_564 bf269_560 rfl rfl rfl
theorem bk269_649 {w : am_Wd} {l0 : Nat} {l1 : Nat} {l2 : Nat} {l3 : Nat} {l4 : Int32} {s0 : Int32} {s1 : Int32} {s2 : Nat} : am_run 269 649 [some (.ref l0), some (.ref l1), some (.ref l2), some (.ref l3), some (.int l4), none, none, none] [.int s0, .int s1, .ref s2] w = if s0 = nI 0 then am_run 269 656 [some (.ref l0), some (.ref l1), some (.ref l2), some (.ref l3), some (.int l4), none, none, none] [.int s1, .ref s2] w else am_run 269 652 [some (.ref l0), some (.ref l1), some (.ref l2), some (.ref l3), some (.int l4), none, none, none] [.int s1, .ref s2] w := by
  exact bifc bf269_649 rfl bf269_656 bf269_652 rfl rfl rfl
theorem bk269_762 {w : am_Wd} {l0 : Nat} {l1 : Nat} {l2 : Nat} {l3 : Nat} {l4 : Int32} {s0 : Int32} {s1 : Int32} {s2 : Nat} : am_run 269 762 [some (.ref l0), some (.ref l1), some (.ref l2), some (.ref l3), some (.int l4), none, none, none] [.int s0, .int s1, .ref s2] w = if s0 = nI 0 then am_run 269 769 [some (.ref l0), some (.ref l1), some (.ref l2), some (.ref l3), some (.int l4), none, none, none] [.int s1, .ref s2] w else am_run 269 765 [some (.ref l0), some (.ref l1), some (.ref l2), some (.ref l3), some (.int l4), none, none, none] [.int s1, .ref s2] w := by
  exact bifc bf269_762 rfl bf269_769 bf269_765 rfl rfl rfl
theorem bk269_847 {w : am_Wd} {l0 : Nat} {l1 : Nat} {l2 : Nat} {l3 : Nat} {l4 : Int32} {s0 : Int32} {s1 : Int32} {s2 : Nat} : am_run 269 847 [some (.ref l0), some (.ref l1), some (.ref l2), some (.ref l3), some (.int l4), none, none, none] [.int s0, .int s1, .ref s2] w = if s0 = nI 0 then am_run 269 854 [some (.ref l0), some (.ref l1), some (.ref l2), some (.ref l3), some (.int l4), none, none, none] [.int s1, .ref s2] w else am_run 269 850 [some (.ref l0), some (.ref l1), some (.ref l2), some (.ref l3), some (.int l4), none, none, none] [.int s1, .ref s2] w := by
  exact bifc bf269_847 rfl bf269_854 bf269_850 rfl rfl rfl
theorem bk269_932 {w : am_Wd} {l0 : Nat} {l1 : Nat} {l2 : Nat} {l3 : Nat} {l4 : Int32} {s0 : Int32} {s1 : Int32} {s2 : Nat} : am_run 269 932 [some (.ref l0), some (.ref l1), some (.ref l2), some (.ref l3), some (.int l4), none, none, none] [.int s0, .int s1, .ref s2] w = (am_x 187 [.ref s2, .int s1, .int s0, .ref l3] w).bind fun r => bct r fun v w' => am_run 269 936 [some (.ref l0), some (.ref l1), some (.ref l2), some (.ref l3), some (.int l4), none, none, none] (v.toList ++ []) w' := by
  refine (bu (ls'' := [some (.ref l0), some (.ref l1), some (.ref l2), some (.ref l3), some (.int l4), none, none, none]) (st' := [.ref l3, .int s0, .int s1, .ref s2]) bf269_932 bf269_933 rfl rfl).trans ?_
  exact bkS bf269_933 bf269_936 rfl (by decide +kernel) (Nat.le_of_ble_eq_true rfl) rfl (bhd rfl)
theorem bk269_999 {w : am_Wd} {l0 : Nat} {l1 : Nat} {l2 : Nat} {l3 : Nat} {l4 : Int32} {s0 : Int32} : am_run 269 999 [some (.ref l0), some (.ref l1), some (.ref l2), some (.ref l3), some (.int l4), none, none, none] [.int s0] w = (am_ri 0 w l0 (l4 + (nI 1))).bind fun v => am_run 269 1008 [some (.ref l0), some (.ref l1), some (.ref l2), some (.ref l3), some (.int l4), some (.int s0), none, none] (.int v :: [.ref l2]) w := by
  refine (bu (ls'' := [some (.ref l0), some (.ref l1), some (.ref l2), some (.ref l3), some (.int l4), some (.int s0), none, none]) (st' := []) bf269_999 bf269_1001 rfl rfl).trans ?_
  refine (bu (ls'' := [some (.ref l0), some (.ref l1), some (.ref l2), some (.ref l3), some (.int l4), some (.int s0), none, none]) (st' := [.ref l2]) bf269_1001 bf269_1002 rfl rfl).trans ?_
  refine (bu (ls'' := [some (.ref l0), some (.ref l1), some (.ref l2), some (.ref l3), some (.int l4), some (.int s0), none, none]) (st' := [.ref l0, .ref l2]) bf269_1002 bf269_1003 rfl rfl).trans ?_
  refine (bu (ls'' := [some (.ref l0), some (.ref l1), some (.ref l2), some (.ref l3), some (.int l4), some (.int s0), none, none]) (st' := [.int l4, .ref l0, .ref l2]) bf269_1003 bf269_1005 rfl rfl).trans ?_
  refine (bu (ls'' := [some (.ref l0), some (.ref l1), some (.ref l2), some (.ref l3), some (.int l4), some (.int s0), none, none]) (st' := [.int (nI 1), .int l4, .ref l0, .ref l2]) bf269_1005 bf269_1006 rfl rfl).trans ?_
  refine (bu (ls'' := [some (.ref l0), some (.ref l1), some (.ref l2), some (.ref l3), some (.int l4), some (.int s0), none, none]) (st' := [.int (l4 + (nI 1)), .ref l0, .ref l2]) bf269_1006 bf269_1007 rfl rfl).trans ?_
  exact bh bf269_1007 bf269_1008 rfl (fun _ _ => am_ge_rf w) rfl
theorem bk269_1058 {w : am_Wd} {l0 : Nat} {l1 : Nat} {l2 : Nat} {l3 : Nat} {l4 : Int32} {s0 : Int32} {s1 : Int32} {s2 : Nat} : am_run 269 1058 [some (.ref l0), some (.ref l1), some (.ref l2), some (.ref l3), some (.int l4), none, none, none] [.int s0, .int s1, .ref s2] w = (am_x 218 [.ref s2, .int s1, .int s0, .ref l3] w).bind fun r => bct r fun v w' => am_run 269 1062 [some (.ref l0), some (.ref l1), some (.ref l2), some (.ref l3), some (.int l4), none, none, none] (v.toList ++ []) w' := by
  refine (bu (ls'' := [some (.ref l0), some (.ref l1), some (.ref l2), some (.ref l3), some (.int l4), none, none, none]) (st' := [.ref l3, .int s0, .int s1, .ref s2]) bf269_1058 bf269_1059 rfl rfl).trans ?_
  exact bkS bf269_1059 bf269_1062 rfl (by decide +kernel) (Nat.le_of_ble_eq_true rfl) rfl (bhd rfl)
theorem bk269_1125 {w : am_Wd} {l0 : Nat} {l1 : Nat} {l2 : Nat} {l3 : Nat} {l4 : Int32} {s0 : Int32} : am_run 269 1125 [some (.ref l0), some (.ref l1), some (.ref l2), some (.ref l3), some (.int l4), none, none, none] [.int s0] w = (am_ri 0 w l0 (l4 + (nI 1))).bind fun v => am_run 269 1134 [some (.ref l0), some (.ref l1), some (.ref l2), some (.ref l3), some (.int l4), some (.int s0), none, none] (.int v :: [.ref l2]) w := by
  refine (bu (ls'' := [some (.ref l0), some (.ref l1), some (.ref l2), some (.ref l3), some (.int l4), some (.int s0), none, none]) (st' := []) bf269_1125 bf269_1127 rfl rfl).trans ?_
  refine (bu (ls'' := [some (.ref l0), some (.ref l1), some (.ref l2), some (.ref l3), some (.int l4), some (.int s0), none, none]) (st' := [.ref l2]) bf269_1127 bf269_1128 rfl rfl).trans ?_
  refine (bu (ls'' := [some (.ref l0), some (.ref l1), some (.ref l2), some (.ref l3), some (.int l4), some (.int s0), none, none]) (st' := [.ref l0, .ref l2]) bf269_1128 bf269_1129 rfl rfl).trans ?_
  refine (bu (ls'' := [some (.ref l0), some (.ref l1), some (.ref l2), some (.ref l3), some (.int l4), some (.int s0), none, none]) (st' := [.int l4, .ref l0, .ref l2]) bf269_1129 bf269_1131 rfl rfl).trans ?_
  refine (bu (ls'' := [some (.ref l0), some (.ref l1), some (.ref l2), some (.ref l3), some (.int l4), some (.int s0), none, none]) (st' := [.int (nI 1), .int l4, .ref l0, .ref l2]) bf269_1131 bf269_1132 rfl rfl).trans ?_
  refine (bu (ls'' := [some (.ref l0), some (.ref l1), some (.ref l2), some (.ref l3), some (.int l4), some (.int s0), none, none]) (st' := [.int (l4 + (nI 1)), .ref l0, .ref l2]) bf269_1132 bf269_1133 rfl rfl).trans ?_
  exact bh bf269_1133 bf269_1134 rfl (fun _ _ => am_ge_rf w) rfl
theorem bk269_1179 {w : am_Wd} {l0 : Nat} {l1 : Nat} {l2 : Nat} {l3 : Nat} {l4 : Int32} {s0 : Int32} {s1 : Int32} : am_run 269 1179 [some (.ref l0), some (.ref l1), some (.ref l2), some (.ref l3), some (.int l4), none, none, none] [.int s0, .int s1] w = if s1 = s0 then am_run 269 2191 [some (.ref l0), some (.ref l1), some (.ref l2), some (.ref l3), some (.int l4), none, none, none] [] w else am_run 269 1182 [none, none, none, none, none, none, none, none] [] w := by
  exact bic bf269_1179 rfl bf269_2191 bf269_1182 rfl rfl rfl
theorem bk269_1197 {w : am_Wd} {l0 : Nat} {l1 : Nat} {l2 : Nat} {l3 : Nat} {l4 : Int32} {s0 : Int32} {s1 : Int32} {s2 : Nat} : am_run 269 1197 [some (.ref l0), some (.ref l1), some (.ref l2), some (.ref l3), some (.int l4), none, none, none] [.int s0, .int s1, .ref s2] w = (am_ri 0 w l0 (l4 + (nI 3))).bind fun v => am_run 269 1203 [some (.ref l0), some (.ref l1), some (.ref l2), some (.ref l3), some (.int l4), none, none, none] (.int v :: [.int s0, .int s1, .ref s2]) w := by
  refine (bu (ls'' := [some (.ref l0), some (.ref l1), some (.ref l2), some (.ref l3), some (.int l4), none, none, none]) (st' := [.ref l0, .int s0, .int s1, .ref s2]) bf269_1197 bf269_1198 rfl rfl).trans ?_
  refine (bu (ls'' := [some (.ref l0), some (.ref l1), some (.ref l2), some (.ref l3), some (.int l4), none, none, none]) (st' := [.int l4, .ref l0, .int s0, .int s1, .ref s2]) bf269_1198 bf269_1200 rfl rfl).trans ?_
  refine (bu (ls'' := [some (.ref l0), some (.ref l1), some (.ref l2), some (.ref l3), some (.int l4), none, none, none]) (st' := [.int (nI 3), .int l4, .ref l0, .int s0, .int s1, .ref s2]) bf269_1200 bf269_1201 rfl rfl).trans ?_
  refine (bu (ls'' := [some (.ref l0), some (.ref l1), some (.ref l2), some (.ref l3), some (.int l4), none, none, none]) (st' := [.int (l4 + (nI 3)), .ref l0, .int s0, .int s1, .ref s2]) bf269_1201 bf269_1202 rfl rfl).trans ?_
  exact bh bf269_1202 bf269_1203 rfl (fun _ _ => am_ge_rf w) rfl
theorem bk269_1278 {w : am_Wd} {l0 : Nat} {l1 : Nat} {l2 : Nat} {l3 : Nat} {l4 : Int32} {s0 : Int32} {s1 : Int32} {s2 : Nat} : am_run 269 1278 [some (.ref l0), some (.ref l1), some (.ref l2), some (.ref l3), some (.int l4), none, none, none] [.int s0, .int s1, .ref s2] w = (am_x 234 [.ref s2, .int s1, .int s0, .ref l3] w).bind fun r => bct r fun v w' => am_run 269 1282 [some (.ref l0), some (.ref l1), some (.ref l2), some (.ref l3), some (.int l4), none, none, none] (v.toList ++ []) w' := by
  refine (bu (ls'' := [some (.ref l0), some (.ref l1), some (.ref l2), some (.ref l3), some (.int l4), none, none, none]) (st' := [.ref l3, .int s0, .int s1, .ref s2]) bf269_1278 bf269_1279 rfl rfl).trans ?_
  exact bkS bf269_1279 bf269_1282 rfl (by decide +kernel) (Nat.le_of_ble_eq_true rfl) rfl (bhd rfl)
theorem bk269_1345 {w : am_Wd} {l0 : Nat} {l1 : Nat} {l2 : Nat} {l3 : Nat} {l4 : Int32} {s0 : Int32} : am_run 269 1345 [some (.ref l0), some (.ref l1), some (.ref l2), some (.ref l3), some (.int l4), none, none, none] [.int s0] w = (am_ri 0 w l0 (l4 + (nI 1))).bind fun v => am_run 269 1354 [some (.ref l0), some (.ref l1), some (.ref l2), some (.ref l3), some (.int l4), some (.int s0), none, none] (.int v :: [.ref l2]) w := by
  refine (bu (ls'' := [some (.ref l0), some (.ref l1), some (.ref l2), some (.ref l3), some (.int l4), some (.int s0), none, none]) (st' := []) bf269_1345 bf269_1347 rfl rfl).trans ?_
  refine (bu (ls'' := [some (.ref l0), some (.ref l1), some (.ref l2), some (.ref l3), some (.int l4), some (.int s0), none, none]) (st' := [.ref l2]) bf269_1347 bf269_1348 rfl rfl).trans ?_
  refine (bu (ls'' := [some (.ref l0), some (.ref l1), some (.ref l2), some (.ref l3), some (.int l4), some (.int s0), none, none]) (st' := [.ref l0, .ref l2]) bf269_1348 bf269_1349 rfl rfl).trans ?_
  refine (bu (ls'' := [some (.ref l0), some (.ref l1), some (.ref l2), some (.ref l3), some (.int l4), some (.int s0), none, none]) (st' := [.int l4, .ref l0, .ref l2]) bf269_1349 bf269_1351 rfl rfl).trans ?_
  refine (bu (ls'' := [some (.ref l0), some (.ref l1), some (.ref l2), some (.ref l3), some (.int l4), some (.int s0), none, none]) (st' := [.int (nI 1), .int l4, .ref l0, .ref l2]) bf269_1351 bf269_1352 rfl rfl).trans ?_
  refine (bu (ls'' := [some (.ref l0), some (.ref l1), some (.ref l2), some (.ref l3), some (.int l4), some (.int s0), none, none]) (st' := [.int (l4 + (nI 1)), .ref l0, .ref l2]) bf269_1352 bf269_1353 rfl rfl).trans ?_
  exact bh bf269_1353 bf269_1354 rfl (fun _ _ => am_ge_rf w) rfl
theorem bk269_1402 {w : am_Wd} {l0 : Nat} {l1 : Nat} {l2 : Nat} {l3 : Nat} {l4 : Int32} {s0 : Int32} : am_run 269 1402 [some (.ref l0), some (.ref l1), some (.ref l2), some (.ref l3), some (.int l4), none, none, none] [.int s0] w = (am_ri 0 w l0 (l4 + (nI 1))).bind fun v => am_run 269 1411 [some (.ref l0), some (.ref l1), some (.ref l2), some (.ref l3), some (.int l4), some (.int s0), none, none] (.int v :: [.ref l2]) w := by
  refine (bu (ls'' := [some (.ref l0), some (.ref l1), some (.ref l2), some (.ref l3), some (.int l4), some (.int s0), none, none]) (st' := []) bf269_1402 bf269_1404 rfl rfl).trans ?_
  refine (bu (ls'' := [some (.ref l0), some (.ref l1), some (.ref l2), some (.ref l3), some (.int l4), some (.int s0), none, none]) (st' := [.ref l2]) bf269_1404 bf269_1405 rfl rfl).trans ?_
  refine (bu (ls'' := [some (.ref l0), some (.ref l1), some (.ref l2), some (.ref l3), some (.int l4), some (.int s0), none, none]) (st' := [.ref l0, .ref l2]) bf269_1405 bf269_1406 rfl rfl).trans ?_
  refine (bu (ls'' := [some (.ref l0), some (.ref l1), some (.ref l2), some (.ref l3), some (.int l4), some (.int s0), none, none]) (st' := [.int l4, .ref l0, .ref l2]) bf269_1406 bf269_1408 rfl rfl).trans ?_
  refine (bu (ls'' := [some (.ref l0), some (.ref l1), some (.ref l2), some (.ref l3), some (.int l4), some (.int s0), none, none]) (st' := [.int (nI 1), .int l4, .ref l0, .ref l2]) bf269_1408 bf269_1409 rfl rfl).trans ?_
  refine (bu (ls'' := [some (.ref l0), some (.ref l1), some (.ref l2), some (.ref l3), some (.int l4), some (.int s0), none, none]) (st' := [.int (l4 + (nI 1)), .ref l0, .ref l2]) bf269_1409 bf269_1410 rfl rfl).trans ?_
  exact bh bf269_1410 bf269_1411 rfl (fun _ _ => am_ge_rf w) rfl
theorem bk269_1462 {w : am_Wd} {l0 : Nat} {l1 : Nat} {l2 : Nat} {l3 : Nat} {l4 : Int32} {s0 : Int32} {s1 : Int32} {s2 : Nat} : am_run 269 1462 [some (.ref l0), some (.ref l1), some (.ref l2), some (.ref l3), some (.int l4), none, none, none] [.int s0, .int s1, .ref s2] w = (am_ri 0 w l0 (l4 + (nI 3))).bind fun v => am_run 269 1468 [some (.ref l0), some (.ref l1), some (.ref l2), some (.ref l3), some (.int l4), none, none, none] (.int v :: [.int s0, .int s1, .ref s2]) w := by
  refine (bu (ls'' := [some (.ref l0), some (.ref l1), some (.ref l2), some (.ref l3), some (.int l4), none, none, none]) (st' := [.ref l0, .int s0, .int s1, .ref s2]) bf269_1462 bf269_1463 rfl rfl).trans ?_
  refine (bu (ls'' := [some (.ref l0), some (.ref l1), some (.ref l2), some (.ref l3), some (.int l4), none, none, none]) (st' := [.int l4, .ref l0, .int s0, .int s1, .ref s2]) bf269_1463 bf269_1465 rfl rfl).trans ?_
  refine (bu (ls'' := [some (.ref l0), some (.ref l1), some (.ref l2), some (.ref l3), some (.int l4), none, none, none]) (st' := [.int (nI 3), .int l4, .ref l0, .int s0, .int s1, .ref s2]) bf269_1465 bf269_1466 rfl rfl).trans ?_
  refine (bu (ls'' := [some (.ref l0), some (.ref l1), some (.ref l2), some (.ref l3), some (.int l4), none, none, none]) (st' := [.int (l4 + (nI 3)), .ref l0, .int s0, .int s1, .ref s2]) bf269_1466 bf269_1467 rfl rfl).trans ?_
  exact bh bf269_1467 bf269_1468 rfl (fun _ _ => am_ge_rf w) rfl
theorem bk269_1543 {w : am_Wd} {l0 : Nat} {l1 : Nat} {l2 : Nat} {l3 : Nat} {l4 : Int32} {s0 : Int32} {s1 : Int32} {s2 : Nat} : am_run 269 1543 [some (.ref l0), some (.ref l1), some (.ref l2), some (.ref l3), some (.int l4), none, none, none] [.int s0, .int s1, .ref s2] w = (am_x 192 [.ref s2, .int s1, .int s0, .ref l3] w).bind fun r => bct r fun v w' => am_run 269 1547 [some (.ref l0), some (.ref l1), some (.ref l2), some (.ref l3), some (.int l4), none, none, none] (v.toList ++ []) w' := by
  refine (bu (ls'' := [some (.ref l0), some (.ref l1), some (.ref l2), some (.ref l3), some (.int l4), none, none, none]) (st' := [.ref l3, .int s0, .int s1, .ref s2]) bf269_1543 bf269_1544 rfl rfl).trans ?_
  exact bkS bf269_1544 bf269_1547 rfl (by decide +kernel) (Nat.le_of_ble_eq_true rfl) rfl (bhd rfl)
theorem bk269_1619 {w : am_Wd} {l0 : Nat} {l1 : Nat} {l2 : Nat} {l3 : Nat} {l4 : Int32} {s0 : Int32} {s1 : Int32} {s2 : Nat} : am_run 269 1619 [some (.ref l0), some (.ref l1), some (.ref l2), some (.ref l3), some (.int l4), none, none, none] [.int s0, .int s1, .ref s2] w = (am_x 193 [.ref s2, .int s1, .int s0, .ref l3] w).bind fun r => bct r fun v w' => am_run 269 1623 [some (.ref l0), some (.ref l1), some (.ref l2), some (.ref l3), some (.int l4), none, none, none] (v.toList ++ []) w' := by
  refine (bu (ls'' := [some (.ref l0), some (.ref l1), some (.ref l2), some (.ref l3), some (.int l4), none, none, none]) (st' := [.ref l3, .int s0, .int s1, .ref s2]) bf269_1619 bf269_1620 rfl rfl).trans ?_
  exact bkS bf269_1620 bf269_1623 rfl (by decide +kernel) (Nat.le_of_ble_eq_true rfl) rfl (bhd rfl)
theorem bk269_1687 {w : am_Wd} {l0 : Nat} {l1 : Nat} {l2 : Nat} {l3 : Nat} {l4 : Int32} {s0 : Int32} {s1 : Int32} {s2 : Nat} : am_run 269 1687 [some (.ref l0), some (.ref l1), some (.ref l2), some (.ref l3), some (.int l4), none, none, none] [.int s0, .int s1, .ref s2] w = (am_ri 0 w l0 (l4 + (nI 3))).bind fun v => am_run 269 1693 [some (.ref l0), some (.ref l1), some (.ref l2), some (.ref l3), some (.int l4), none, none, none] (.int v :: [.int s0, .int s1, .ref s2]) w := by
  refine (bu (ls'' := [some (.ref l0), some (.ref l1), some (.ref l2), some (.ref l3), some (.int l4), none, none, none]) (st' := [.ref l0, .int s0, .int s1, .ref s2]) bf269_1687 bf269_1688 rfl rfl).trans ?_
  refine (bu (ls'' := [some (.ref l0), some (.ref l1), some (.ref l2), some (.ref l3), some (.int l4), none, none, none]) (st' := [.int l4, .ref l0, .int s0, .int s1, .ref s2]) bf269_1688 bf269_1690 rfl rfl).trans ?_
  refine (bu (ls'' := [some (.ref l0), some (.ref l1), some (.ref l2), some (.ref l3), some (.int l4), none, none, none]) (st' := [.int (nI 3), .int l4, .ref l0, .int s0, .int s1, .ref s2]) bf269_1690 bf269_1691 rfl rfl).trans ?_
  refine (bu (ls'' := [some (.ref l0), some (.ref l1), some (.ref l2), some (.ref l3), some (.int l4), none, none, none]) (st' := [.int (l4 + (nI 3)), .ref l0, .int s0, .int s1, .ref s2]) bf269_1691 bf269_1692 rfl rfl).trans ?_
  exact bh bf269_1692 bf269_1693 rfl (fun _ _ => am_ge_rf w) rfl
theorem bk269_1768 {w : am_Wd} {l0 : Nat} {l1 : Nat} {l2 : Nat} {l3 : Nat} {l4 : Int32} {s0 : Int32} {s1 : Int32} {s2 : Nat} : am_run 269 1768 [some (.ref l0), some (.ref l1), some (.ref l2), some (.ref l3), some (.int l4), none, none, none] [.int s0, .int s1, .ref s2] w = (am_x 249 [.ref s2, .int s1, .int s0, .ref l3] w).bind fun r => bct r fun v w' => am_run 269 1772 [some (.ref l0), some (.ref l1), some (.ref l2), some (.ref l3), some (.int l4), none, none, none] (v.toList ++ []) w' := by
  refine (bu (ls'' := [some (.ref l0), some (.ref l1), some (.ref l2), some (.ref l3), some (.int l4), none, none, none]) (st' := [.ref l3, .int s0, .int s1, .ref s2]) bf269_1768 bf269_1769 rfl rfl).trans ?_
  exact bkS bf269_1769 bf269_1772 rfl (by decide +kernel) (Nat.le_of_ble_eq_true rfl) rfl (bhd rfl)
theorem bk269_1835 {w : am_Wd} {l0 : Nat} {l1 : Nat} {l2 : Nat} {l3 : Nat} {l4 : Int32} {s0 : Int32} : am_run 269 1835 [some (.ref l0), some (.ref l1), some (.ref l2), some (.ref l3), some (.int l4), none, none, none] [.int s0] w = (am_ri 0 w l0 (l4 + (nI 1))).bind fun v => am_run 269 1844 [some (.ref l0), some (.ref l1), some (.ref l2), some (.ref l3), some (.int l4), some (.int s0), none, none] (.int v :: [.ref l2]) w := by
  refine (bu (ls'' := [some (.ref l0), some (.ref l1), some (.ref l2), some (.ref l3), some (.int l4), some (.int s0), none, none]) (st' := []) bf269_1835 bf269_1837 rfl rfl).trans ?_
  refine (bu (ls'' := [some (.ref l0), some (.ref l1), some (.ref l2), some (.ref l3), some (.int l4), some (.int s0), none, none]) (st' := [.ref l2]) bf269_1837 bf269_1838 rfl rfl).trans ?_
  refine (bu (ls'' := [some (.ref l0), some (.ref l1), some (.ref l2), some (.ref l3), some (.int l4), some (.int s0), none, none]) (st' := [.ref l0, .ref l2]) bf269_1838 bf269_1839 rfl rfl).trans ?_
  refine (bu (ls'' := [some (.ref l0), some (.ref l1), some (.ref l2), some (.ref l3), some (.int l4), some (.int s0), none, none]) (st' := [.int l4, .ref l0, .ref l2]) bf269_1839 bf269_1841 rfl rfl).trans ?_
  refine (bu (ls'' := [some (.ref l0), some (.ref l1), some (.ref l2), some (.ref l3), some (.int l4), some (.int s0), none, none]) (st' := [.int (nI 1), .int l4, .ref l0, .ref l2]) bf269_1841 bf269_1842 rfl rfl).trans ?_
  refine (bu (ls'' := [some (.ref l0), some (.ref l1), some (.ref l2), some (.ref l3), some (.int l4), some (.int s0), none, none]) (st' := [.int (l4 + (nI 1)), .ref l0, .ref l2]) bf269_1842 bf269_1843 rfl rfl).trans ?_
  exact bh bf269_1843 bf269_1844 rfl (fun _ _ => am_ge_rf w) rfl
theorem bk269_1913 {w : am_Wd} {l0 : Nat} {l1 : Nat} {l2 : Nat} {l3 : Nat} {l4 : Int32} {s0 : Int32} {s1 : Int32} {s2 : Nat} : am_run 269 1913 [some (.ref l0), some (.ref l1), some (.ref l2), some (.ref l3), some (.int l4), none, none, none] [.int s0, .int s1, .ref s2] w = (am_x 235 [.ref s2, .int s1, .int s0, .ref l3] w).bind fun r => bct r fun v w' => am_run 269 1917 [some (.ref l0), some (.ref l1), some (.ref l2), some (.ref l3), some (.int l4), none, none, none] (v.toList ++ []) w' := by
  refine (bu (ls'' := [some (.ref l0), some (.ref l1), some (.ref l2), some (.ref l3), some (.int l4), none, none, none]) (st' := [.ref l3, .int s0, .int s1, .ref s2]) bf269_1913 bf269_1914 rfl rfl).trans ?_
  exact bkS bf269_1914 bf269_1917 rfl (by decide +kernel) (Nat.le_of_ble_eq_true rfl) rfl (bhd rfl)
theorem bk269_1980 {w : am_Wd} {l0 : Nat} {l1 : Nat} {l2 : Nat} {l3 : Nat} {l4 : Int32} {s0 : Int32} : am_run 269 1980 [some (.ref l0), some (.ref l1), some (.ref l2), some (.ref l3), some (.int l4), none, none, none] [.int s0] w = (am_ri 0 w l0 (l4 + (nI 1))).bind fun v => am_run 269 1989 [some (.ref l0), some (.ref l1), some (.ref l2), some (.ref l3), some (.int l4), some (.int s0), none, none] (.int v :: [.ref l2]) w := by
  refine (bu (ls'' := [some (.ref l0), some (.ref l1), some (.ref l2), some (.ref l3), some (.int l4), some (.int s0), none, none]) (st' := []) bf269_1980 bf269_1982 rfl rfl).trans ?_
  refine (bu (ls'' := [some (.ref l0), some (.ref l1), some (.ref l2), some (.ref l3), some (.int l4), some (.int s0), none, none]) (st' := [.ref l2]) bf269_1982 bf269_1983 rfl rfl).trans ?_
  refine (bu (ls'' := [some (.ref l0), some (.ref l1), some (.ref l2), some (.ref l3), some (.int l4), some (.int s0), none, none]) (st' := [.ref l0, .ref l2]) bf269_1983 bf269_1984 rfl rfl).trans ?_
  refine (bu (ls'' := [some (.ref l0), some (.ref l1), some (.ref l2), some (.ref l3), some (.int l4), some (.int s0), none, none]) (st' := [.int l4, .ref l0, .ref l2]) bf269_1984 bf269_1986 rfl rfl).trans ?_
  refine (bu (ls'' := [some (.ref l0), some (.ref l1), some (.ref l2), some (.ref l3), some (.int l4), some (.int s0), none, none]) (st' := [.int (nI 1), .int l4, .ref l0, .ref l2]) bf269_1986 bf269_1987 rfl rfl).trans ?_
  refine (bu (ls'' := [some (.ref l0), some (.ref l1), some (.ref l2), some (.ref l3), some (.int l4), some (.int s0), none, none]) (st' := [.int (l4 + (nI 1)), .ref l0, .ref l2]) bf269_1987 bf269_1988 rfl rfl).trans ?_
  exact bh bf269_1988 bf269_1989 rfl (fun _ _ => am_ge_rf w) rfl
theorem bk269_2039 {w : am_Wd} {l0 : Nat} {l1 : Nat} {l2 : Nat} {l3 : Nat} {l4 : Int32} {s0 : Int32} {s1 : Int32} {s2 : Nat} : am_run 269 2039 [some (.ref l0), some (.ref l1), some (.ref l2), some (.ref l3), some (.int l4), none, none, none] [.int s0, .int s1, .ref s2] w = (am_x 220 [.ref s2, .int s1, .int s0, .ref l3] w).bind fun r => bct r fun v w' => am_run 269 2043 [some (.ref l0), some (.ref l1), some (.ref l2), some (.ref l3), some (.int l4), none, none, none] (v.toList ++ []) w' := by
  refine (bu (ls'' := [some (.ref l0), some (.ref l1), some (.ref l2), some (.ref l3), some (.int l4), none, none, none]) (st' := [.ref l3, .int s0, .int s1, .ref s2]) bf269_2039 bf269_2040 rfl rfl).trans ?_
  exact bkS bf269_2040 bf269_2043 rfl (by decide +kernel) (Nat.le_of_ble_eq_true rfl) rfl (bhd rfl)
theorem bk269_2108 {w : am_Wd} {l0 : Nat} {l1 : Nat} {l2 : Nat} {l3 : Nat} {l4 : Int32} {s0 : Int32} {s1 : Int32} {s2 : Nat} : am_run 269 2108 [some (.ref l0), some (.ref l1), some (.ref l2), some (.ref l3), some (.int l4), none, none, none] [.int s0, .int s1, .ref s2] w = (am_x 237 [.ref s2, .int s1, .int s0, .ref l3] w).bind fun r => bct r fun v w' => am_run 269 2112 [some (.ref l0), some (.ref l1), some (.ref l2), some (.ref l3), some (.int l4), none, none, none] (v.toList ++ []) w' := by
  refine (bu (ls'' := [some (.ref l0), some (.ref l1), some (.ref l2), some (.ref l3), some (.int l4), none, none, none]) (st' := [.ref l3, .int s0, .int s1, .ref s2]) bf269_2108 bf269_2109 rfl rfl).trans ?_
  exact bkS bf269_2109 bf269_2112 rfl (by decide +kernel) (Nat.le_of_ble_eq_true rfl) rfl (bhd rfl)
theorem bk269_2172 {w : am_Wd} {l0 : Nat} {l1 : Nat} {l2 : Nat} {l3 : Nat} {l4 : Int32} {s0 : Int32} {s1 : Int32} : am_run 269 2172 [some (.ref l0), some (.ref l1), some (.ref l2), some (.ref l3), some (.int l4), none, none, none] [.int s0, .int s1] w = if s1 = s0 then am_run 269 2191 [some (.ref l0), some (.ref l1), some (.ref l2), some (.ref l3), some (.int l4), none, none, none] [] w else am_run 269 2175 [none, none, none, none, none, none, none, none] [] w := by
  exact bic bf269_2172 rfl bf269_2191 bf269_2175 rfl rfl rfl
theorem bk269_2185 {w : am_Wd} {l0 : Nat} {l1 : Nat} {l2 : Nat} {l3 : Nat} {l4 : Int32} {s0 : Int64} {s1 : Int64} : am_run 269 2185 [some (.ref l0), some (.ref l1), some (.ref l2), some (.ref l3), some (.int l4), none, none, none] [.long s0, .long s1] w = if (lg_cmp s1 s0) = nI 0 then am_run 269 2191 [some (.ref l0), some (.ref l1), some (.ref l2), some (.ref l3), some (.int l4), none, none, none] [] w else am_run 269 2189 [none, none, none, none, none, none, none, none] [] w := by
  refine (bu (ls'' := [some (.ref l0), some (.ref l1), some (.ref l2), some (.ref l3), some (.int l4), none, none, none]) (st' := [.int (lg_cmp s1 s0)]) bf269_2185 bf269_2186 rfl rfl).trans ?_
  exact bifc bf269_2186 rfl bf269_2191 bf269_2189 rfl rfl rfl
theorem bk269_191 {w : am_Wd} {l0 : Nat} {l1 : Nat} {l2 : Nat} {l3 : Nat} {l4 : Int32} {s0 : Int32} {s1 : Int32} {s2 : Int32} {s3 : Nat} : am_run 269 191 [some (.ref l0), some (.ref l1), some (.ref l2), some (.ref l3), some (.int l4), none, none, none] [.int s0, .int s1, .int s2, .ref s3] w = (am_ri 0 w l0 (l4 + (nI 4))).bind fun v => am_run 269 197 [some (.ref l0), some (.ref l1), some (.ref l2), some (.ref l3), some (.int l4), none, none, none] (.int v :: [.int s0, .int s1, .int s2, .ref s3]) w := by
  refine (bu (ls'' := [some (.ref l0), some (.ref l1), some (.ref l2), some (.ref l3), some (.int l4), none, none, none]) (st' := [.ref l0, .int s0, .int s1, .int s2, .ref s3]) bf269_191 bf269_192 rfl rfl).trans ?_
  refine (bu (ls'' := [some (.ref l0), some (.ref l1), some (.ref l2), some (.ref l3), some (.int l4), none, none, none]) (st' := [.int l4, .ref l0, .int s0, .int s1, .int s2, .ref s3]) bf269_192 bf269_194 rfl rfl).trans ?_
  refine (bu (ls'' := [some (.ref l0), some (.ref l1), some (.ref l2), some (.ref l3), some (.int l4), none, none, none]) (st' := [.int (nI 4), .int l4, .ref l0, .int s0, .int s1, .int s2, .ref s3]) bf269_194 bf269_195 rfl rfl).trans ?_
  refine (bu (ls'' := [some (.ref l0), some (.ref l1), some (.ref l2), some (.ref l3), some (.int l4), none, none, none]) (st' := [.int (l4 + (nI 4)), .ref l0, .int s0, .int s1, .int s2, .ref s3]) bf269_195 bf269_196 rfl rfl).trans ?_
  exact bh bf269_196 bf269_197 rfl (fun _ _ => am_ge_rf w) rfl
theorem bk269_285 {w : am_Wd} {l0 : Nat} {l1 : Nat} {l2 : Nat} {l3 : Nat} {l4 : Int32} {l5 : Int32} {s0 : Int32} {s1 : Nat} : am_run 269 285 [some (.ref l0), some (.ref l1), some (.ref l2), some (.ref l3), some (.int l4), some (.int l5), none, none] [.int s0, .ref s1] w = (am_kf w s1 11).bind fun _ => (am_x 206 [.ref s1, .int s0] w).bind fun r => bct r fun v w' => am_run 269 288 [some (.ref l0), some (.ref l1), some (.ref l2), some (.ref l3), some (.int l4), some (.int l5), none, none] (v.toList ++ []) w' := by
  exact bkV bf269_285 bf269_288 rfl (by decide +kernel) (Nat.le_of_ble_eq_true rfl) rfl (bhd rfl)
theorem bk269_342 {w : am_Wd} {l0 : Nat} {l1 : Nat} {l2 : Nat} {l3 : Nat} {l4 : Int32} {s0 : Int32} {s1 : Nat} : am_run 269 342 [some (.ref l0), some (.ref l1), some (.ref l2), some (.ref l3), some (.int l4), none, none, none] [.int s0, .ref s1] w = am_run 269 343 [some (.ref l0), some (.ref l1), some (.ref l2), some (.ref l3), some (.int l4), none, none, none] [.int (nI 0), .int s0, .ref s1] w := by
  refine (bu (ls'' := [some (.ref l0), some (.ref l1), some (.ref l2), some (.ref l3), some (.int l4), none, none, none]) (st' := [.int (nI 0), .int s0, .ref s1]) bf269_342 bf269_343 rfl rfl).trans ?_
  rfl
theorem bk269_338 {w : am_Wd} {l0 : Nat} {l1 : Nat} {l2 : Nat} {l3 : Nat} {l4 : Int32} {s0 : Int32} {s1 : Nat} : am_run 269 338 [some (.ref l0), some (.ref l1), some (.ref l2), some (.ref l3), some (.int l4), none, none, none] [.int s0, .ref s1] w = am_run 269 343 [some (.ref l0), some (.ref l1), some (.ref l2), some (.ref l3), some (.int l4), none, none, none] [.int (nI 1), .int s0, .ref s1] w := by
  refine (bu (ls'' := [some (.ref l0), some (.ref l1), some (.ref l2), some (.ref l3), some (.int l4), none, none, none]) (st' := [.int (nI 1), .int s0, .ref s1]) bf269_338 bf269_339 rfl rfl).trans ?_
  refine (bu (ls'' := [some (.ref l0), some (.ref l1), some (.ref l2), some (.ref l3), some (.int l4), none, none, none]) (st' := [.int (nI 1), .int s0, .ref s1]) bf269_339 bf269_343 rfl rfl).trans ?_
  rfl
theorem bk269_454 {w : am_Wd} {l0 : Nat} {l1 : Nat} {l2 : Nat} {l3 : Nat} {l4 : Int32} {s0 : Int32} {s1 : Int32} {s2 : Int32} {s3 : Nat} : am_run 269 454 [some (.ref l0), some (.ref l1), some (.ref l2), some (.ref l3), some (.int l4), none, none, none] [.int s0, .int s1, .int s2, .ref s3] w = (am_ri 0 w l0 (l4 + (nI 4))).bind fun v => am_run 269 460 [some (.ref l0), some (.ref l1), some (.ref l2), some (.ref l3), some (.int l4), none, none, none] (.int v :: [.int s0, .int s1, .int s2, .ref s3]) w := by
  refine (bu (ls'' := [some (.ref l0), some (.ref l1), some (.ref l2), some (.ref l3), some (.int l4), none, none, none]) (st' := [.ref l0, .int s0, .int s1, .int s2, .ref s3]) bf269_454 bf269_455 rfl rfl).trans ?_
  refine (bu (ls'' := [some (.ref l0), some (.ref l1), some (.ref l2), some (.ref l3), some (.int l4), none, none, none]) (st' := [.int l4, .ref l0, .int s0, .int s1, .int s2, .ref s3]) bf269_455 bf269_457 rfl rfl).trans ?_
  refine (bu (ls'' := [some (.ref l0), some (.ref l1), some (.ref l2), some (.ref l3), some (.int l4), none, none, none]) (st' := [.int (nI 4), .int l4, .ref l0, .int s0, .int s1, .int s2, .ref s3]) bf269_457 bf269_458 rfl rfl).trans ?_
  refine (bu (ls'' := [some (.ref l0), some (.ref l1), some (.ref l2), some (.ref l3), some (.int l4), none, none, none]) (st' := [.int (l4 + (nI 4)), .ref l0, .int s0, .int s1, .int s2, .ref s3]) bf269_458 bf269_459 rfl rfl).trans ?_
  exact bh bf269_459 bf269_460 rfl (fun _ _ => am_ge_rf w) rfl
theorem bk269_564 {w : am_Wd} {l0 : Nat} {l1 : Nat} {l2 : Nat} {l3 : Nat} {l4 : Int32} {s0 : Int32} {s1 : Nat} : am_run 269 564 [some (.ref l0), some (.ref l1), some (.ref l2), some (.ref l3), some (.int l4), none, none, none] [.int s0, .ref s1] w = am_run 269 565 [some (.ref l0), some (.ref l1), some (.ref l2), some (.ref l3), some (.int l4), none, none, none] [.int (nI 0), .int s0, .ref s1] w := by
  refine (bu (ls'' := [some (.ref l0), some (.ref l1), some (.ref l2), some (.ref l3), some (.int l4), none, none, none]) (st' := [.int (nI 0), .int s0, .ref s1]) bf269_564 bf269_565 rfl rfl).trans ?_
  rfl
theorem bk269_560 {w : am_Wd} {l0 : Nat} {l1 : Nat} {l2 : Nat} {l3 : Nat} {l4 : Int32} {s0 : Int32} {s1 : Nat} : am_run 269 560 [some (.ref l0), some (.ref l1), some (.ref l2), some (.ref l3), some (.int l4), none, none, none] [.int s0, .ref s1] w = am_run 269 565 [some (.ref l0), some (.ref l1), some (.ref l2), some (.ref l3), some (.int l4), none, none, none] [.int (nI 1), .int s0, .ref s1] w := by
  refine (bu (ls'' := [some (.ref l0), some (.ref l1), some (.ref l2), some (.ref l3), some (.int l4), none, none, none]) (st' := [.int (nI 1), .int s0, .ref s1]) bf269_560 bf269_561 rfl rfl).trans ?_
  refine (bu (ls'' := [some (.ref l0), some (.ref l1), some (.ref l2), some (.ref l3), some (.int l4), none, none, none]) (st' := [.int (nI 1), .int s0, .ref s1]) bf269_561 bf269_565 rfl rfl).trans ?_
  rfl
theorem bk269_656 {w : am_Wd} {l0 : Nat} {l1 : Nat} {l2 : Nat} {l3 : Nat} {l4 : Int32} {s0 : Int32} {s1 : Nat} : am_run 269 656 [some (.ref l0), some (.ref l1), some (.ref l2), some (.ref l3), some (.int l4), none, none, none] [.int s0, .ref s1] w = am_run 269 657 [some (.ref l0), some (.ref l1), some (.ref l2), some (.ref l3), some (.int l4), none, none, none] [.int (nI 0), .int s0, .ref s1] w := by
  refine (bu (ls'' := [some (.ref l0), some (.ref l1), some (.ref l2), some (.ref l3), some (.int l4), none, none, none]) (st' := [.int (nI 0), .int s0, .ref s1]) bf269_656 bf269_657 rfl rfl).trans ?_
  rfl
theorem bk269_652 {w : am_Wd} {l0 : Nat} {l1 : Nat} {l2 : Nat} {l3 : Nat} {l4 : Int32} {s0 : Int32} {s1 : Nat} : am_run 269 652 [some (.ref l0), some (.ref l1), some (.ref l2), some (.ref l3), some (.int l4), none, none, none] [.int s0, .ref s1] w = am_run 269 657 [some (.ref l0), some (.ref l1), some (.ref l2), some (.ref l3), some (.int l4), none, none, none] [.int (nI 1), .int s0, .ref s1] w := by
  refine (bu (ls'' := [some (.ref l0), some (.ref l1), some (.ref l2), some (.ref l3), some (.int l4), none, none, none]) (st' := [.int (nI 1), .int s0, .ref s1]) bf269_652 bf269_653 rfl rfl).trans ?_
  refine (bu (ls'' := [some (.ref l0), some (.ref l1), some (.ref l2), some (.ref l3), some (.int l4), none, none, none]) (st' := [.int (nI 1), .int s0, .ref s1]) bf269_653 bf269_657 rfl rfl).trans ?_
  rfl
theorem bk269_769 {w : am_Wd} {l0 : Nat} {l1 : Nat} {l2 : Nat} {l3 : Nat} {l4 : Int32} {s0 : Int32} {s1 : Nat} : am_run 269 769 [some (.ref l0), some (.ref l1), some (.ref l2), some (.ref l3), some (.int l4), none, none, none] [.int s0, .ref s1] w = am_run 269 770 [some (.ref l0), some (.ref l1), some (.ref l2), some (.ref l3), some (.int l4), none, none, none] [.int (nI 0), .int s0, .ref s1] w := by
  refine (bu (ls'' := [some (.ref l0), some (.ref l1), some (.ref l2), some (.ref l3), some (.int l4), none, none, none]) (st' := [.int (nI 0), .int s0, .ref s1]) bf269_769 bf269_770 rfl rfl).trans ?_
  rfl
theorem bk269_765 {w : am_Wd} {l0 : Nat} {l1 : Nat} {l2 : Nat} {l3 : Nat} {l4 : Int32} {s0 : Int32} {s1 : Nat} : am_run 269 765 [some (.ref l0), some (.ref l1), some (.ref l2), some (.ref l3), some (.int l4), none, none, none] [.int s0, .ref s1] w = am_run 269 770 [some (.ref l0), some (.ref l1), some (.ref l2), some (.ref l3), some (.int l4), none, none, none] [.int (nI 1), .int s0, .ref s1] w := by
  refine (bu (ls'' := [some (.ref l0), some (.ref l1), some (.ref l2), some (.ref l3), some (.int l4), none, none, none]) (st' := [.int (nI 1), .int s0, .ref s1]) bf269_765 bf269_766 rfl rfl).trans ?_
  refine (bu (ls'' := [some (.ref l0), some (.ref l1), some (.ref l2), some (.ref l3), some (.int l4), none, none, none]) (st' := [.int (nI 1), .int s0, .ref s1]) bf269_766 bf269_770 rfl rfl).trans ?_
  rfl
theorem bk269_854 {w : am_Wd} {l0 : Nat} {l1 : Nat} {l2 : Nat} {l3 : Nat} {l4 : Int32} {s0 : Int32} {s1 : Nat} : am_run 269 854 [some (.ref l0), some (.ref l1), some (.ref l2), some (.ref l3), some (.int l4), none, none, none] [.int s0, .ref s1] w = am_run 269 855 [some (.ref l0), some (.ref l1), some (.ref l2), some (.ref l3), some (.int l4), none, none, none] [.int (nI 0), .int s0, .ref s1] w := by
  refine (bu (ls'' := [some (.ref l0), some (.ref l1), some (.ref l2), some (.ref l3), some (.int l4), none, none, none]) (st' := [.int (nI 0), .int s0, .ref s1]) bf269_854 bf269_855 rfl rfl).trans ?_
  rfl
theorem bk269_850 {w : am_Wd} {l0 : Nat} {l1 : Nat} {l2 : Nat} {l3 : Nat} {l4 : Int32} {s0 : Int32} {s1 : Nat} : am_run 269 850 [some (.ref l0), some (.ref l1), some (.ref l2), some (.ref l3), some (.int l4), none, none, none] [.int s0, .ref s1] w = am_run 269 855 [some (.ref l0), some (.ref l1), some (.ref l2), some (.ref l3), some (.int l4), none, none, none] [.int (nI 1), .int s0, .ref s1] w := by
  refine (bu (ls'' := [some (.ref l0), some (.ref l1), some (.ref l2), some (.ref l3), some (.int l4), none, none, none]) (st' := [.int (nI 1), .int s0, .ref s1]) bf269_850 bf269_851 rfl rfl).trans ?_
  refine (bu (ls'' := [some (.ref l0), some (.ref l1), some (.ref l2), some (.ref l3), some (.int l4), none, none, none]) (st' := [.int (nI 1), .int s0, .ref s1]) bf269_851 bf269_855 rfl rfl).trans ?_
  rfl
theorem bk269_936 {w : am_Wd} {l0 : Nat} {l1 : Nat} {l2 : Nat} {l3 : Nat} {l4 : Int32} {s0 : Int32} : am_run 269 936 [some (.ref l0), some (.ref l1), some (.ref l2), some (.ref l3), some (.int l4), none, none, none] [.int s0] w = (am_ri 0 w l0 (l4 + (nI 1))).bind fun v => am_run 269 945 [some (.ref l0), some (.ref l1), some (.ref l2), some (.ref l3), some (.int l4), some (.int s0), none, none] (.int v :: [.ref l2]) w := by
  refine (bu (ls'' := [some (.ref l0), some (.ref l1), some (.ref l2), some (.ref l3), some (.int l4), some (.int s0), none, none]) (st' := []) bf269_936 bf269_938 rfl rfl).trans ?_
  refine (bu (ls'' := [some (.ref l0), some (.ref l1), some (.ref l2), some (.ref l3), some (.int l4), some (.int s0), none, none]) (st' := [.ref l2]) bf269_938 bf269_939 rfl rfl).trans ?_
  refine (bu (ls'' := [some (.ref l0), some (.ref l1), some (.ref l2), some (.ref l3), some (.int l4), some (.int s0), none, none]) (st' := [.ref l0, .ref l2]) bf269_939 bf269_940 rfl rfl).trans ?_
  refine (bu (ls'' := [some (.ref l0), some (.ref l1), some (.ref l2), some (.ref l3), some (.int l4), some (.int s0), none, none]) (st' := [.int l4, .ref l0, .ref l2]) bf269_940 bf269_942 rfl rfl).trans ?_
  refine (bu (ls'' := [some (.ref l0), some (.ref l1), some (.ref l2), some (.ref l3), some (.int l4), some (.int s0), none, none]) (st' := [.int (nI 1), .int l4, .ref l0, .ref l2]) bf269_942 bf269_943 rfl rfl).trans ?_
  refine (bu (ls'' := [some (.ref l0), some (.ref l1), some (.ref l2), some (.ref l3), some (.int l4), some (.int s0), none, none]) (st' := [.int (l4 + (nI 1)), .ref l0, .ref l2]) bf269_943 bf269_944 rfl rfl).trans ?_
  exact bh bf269_944 bf269_945 rfl (fun _ _ => am_ge_rf w) rfl
theorem bk269_1008 {w : am_Wd} {l0 : Nat} {l1 : Nat} {l2 : Nat} {l3 : Nat} {l4 : Int32} {l5 : Int32} {s0 : Int32} {s1 : Nat} : am_run 269 1008 [some (.ref l0), some (.ref l1), some (.ref l2), some (.ref l3), some (.int l4), some (.int l5), none, none] [.int s0, .ref s1] w = (am_kf w s1 11).bind fun _ => (am_x 179 [.ref s1, .int s0] w).bind fun r => bct r fun v w' => am_run 269 1011 [some (.ref l0), some (.ref l1), some (.ref l2), some (.ref l3), some (.int l4), some (.int l5), none, none] (v.toList ++ []) w' := by
  exact bkV bf269_1008 bf269_1011 rfl (by decide +kernel) (Nat.le_of_ble_eq_true rfl) rfl (bhd rfl)
theorem bk269_1062 {w : am_Wd} {l0 : Nat} {l1 : Nat} {l2 : Nat} {l3 : Nat} {l4 : Int32} {s0 : Int32} : am_run 269 1062 [some (.ref l0), some (.ref l1), some (.ref l2), some (.ref l3), some (.int l4), none, none, none] [.int s0] w = (am_ri 0 w l0 (l4 + (nI 1))).bind fun v => am_run 269 1071 [some (.ref l0), some (.ref l1), some (.ref l2), some (.ref l3), some (.int l4), some (.int s0), none, none] (.int v :: [.ref l2]) w := by
  refine (bu (ls'' := [some (.ref l0), some (.ref l1), some (.ref l2), some (.ref l3), some (.int l4), some (.int s0), none, none]) (st' := []) bf269_1062 bf269_1064 rfl rfl).trans ?_
  refine (bu (ls'' := [some (.ref l0), some (.ref l1), some (.ref l2), some (.ref l3), some (.int l4), some (.int s0), none, none]) (st' := [.ref l2]) bf269_1064 bf269_1065 rfl rfl).trans ?_
  refine (bu (ls'' := [some (.ref l0), some (.ref l1), some (.ref l2), some (.ref l3), some (.int l4), some (.int s0), none, none]) (st' := [.ref l0, .ref l2]) bf269_1065 bf269_1066 rfl rfl).trans ?_
  refine (bu (ls'' := [some (.ref l0), some (.ref l1), some (.ref l2), some (.ref l3), some (.int l4), some (.int s0), none, none]) (st' := [.int l4, .ref l0, .ref l2]) bf269_1066 bf269_1068 rfl rfl).trans ?_
  refine (bu (ls'' := [some (.ref l0), some (.ref l1), some (.ref l2), some (.ref l3), some (.int l4), some (.int s0), none, none]) (st' := [.int (nI 1), .int l4, .ref l0, .ref l2]) bf269_1068 bf269_1069 rfl rfl).trans ?_
  refine (bu (ls'' := [some (.ref l0), some (.ref l1), some (.ref l2), some (.ref l3), some (.int l4), some (.int s0), none, none]) (st' := [.int (l4 + (nI 1)), .ref l0, .ref l2]) bf269_1069 bf269_1070 rfl rfl).trans ?_
  exact bh bf269_1070 bf269_1071 rfl (fun _ _ => am_ge_rf w) rfl
theorem bk269_1134 {w : am_Wd} {l0 : Nat} {l1 : Nat} {l2 : Nat} {l3 : Nat} {l4 : Int32} {l5 : Int32} {s0 : Int32} {s1 : Nat} : am_run 269 1134 [some (.ref l0), some (.ref l1), some (.ref l2), some (.ref l3), some (.int l4), some (.int l5), none, none] [.int s0, .ref s1] w = (am_kf w s1 11).bind fun _ => (am_x 145 [.ref s1, .int s0] w).bind fun r => bct r fun v w' => am_run 269 1137 [some (.ref l0), some (.ref l1), some (.ref l2), some (.ref l3), some (.int l4), some (.int l5), none, none] (v.toList ++ []) w' := by
  exact bkV bf269_1134 bf269_1137 rfl (by decide +kernel) (Nat.le_of_ble_eq_true rfl) rfl (bhd rfl)
theorem bk269_1182 {w : am_Wd}  : am_run 269 1182 [none, none, none, none, none, none, none, none] [] w = some (.inl (some (.int (nI 0))), w) := by
  refine (bu (ls'' := [none, none, none, none, none, none, none, none]) (st' := [.int (nI 0)]) bf269_1182 bf269_1183 rfl rfl).trans ?_
  exact am_e2 bf269_1183 rfl (am_ge_rf w)
theorem bk269_1203 {w : am_Wd} {l0 : Nat} {l1 : Nat} {l2 : Nat} {l3 : Nat} {l4 : Int32} {s0 : Int32} {s1 : Int32} {s2 : Int32} {s3 : Nat} : am_run 269 1203 [some (.ref l0), some (.ref l1), some (.ref l2), some (.ref l3), some (.int l4), none, none, none] [.int s0, .int s1, .int s2, .ref s3] w = (am_x 219 [.ref s3, .int s2, .int s1, .int s0, .ref l3] w).bind fun r => bct r fun v w' => am_run 269 1207 [some (.ref l0), some (.ref l1), some (.ref l2), some (.ref l3), some (.int l4), none, none, none] (v.toList ++ []) w' := by
  refine (bu (ls'' := [some (.ref l0), some (.ref l1), some (.ref l2), some (.ref l3), some (.int l4), none, none, none]) (st' := [.ref l3, .int s0, .int s1, .int s2, .ref s3]) bf269_1203 bf269_1204 rfl rfl).trans ?_
  exact bkS bf269_1204 bf269_1207 rfl (by decide +kernel) (Nat.le_of_ble_eq_true rfl) rfl (bhd rfl)
theorem bk269_1282 {w : am_Wd} {l0 : Nat} {l1 : Nat} {l2 : Nat} {l3 : Nat} {l4 : Int32} {s0 : Int32} : am_run 269 1282 [some (.ref l0), some (.ref l1), some (.ref l2), some (.ref l3), some (.int l4), none, none, none] [.int s0] w = (am_ri 0 w l0 (l4 + (nI 1))).bind fun v => am_run 269 1291 [some (.ref l0), some (.ref l1), some (.ref l2), some (.ref l3), some (.int l4), some (.int s0), none, none] (.int v :: [.ref l2]) w := by
  refine (bu (ls'' := [some (.ref l0), some (.ref l1), some (.ref l2), some (.ref l3), some (.int l4), some (.int s0), none, none]) (st' := []) bf269_1282 bf269_1284 rfl rfl).trans ?_
  refine (bu (ls'' := [some (.ref l0), some (.ref l1), some (.ref l2), some (.ref l3), some (.int l4), some (.int s0), none, none]) (st' := [.ref l2]) bf269_1284 bf269_1285 rfl rfl).trans ?_
  refine (bu (ls'' := [some (.ref l0), some (.ref l1), some (.ref l2), some (.ref l3), some (.int l4), some (.int s0), none, none]) (st' := [.ref l0, .ref l2]) bf269_1285 bf269_1286 rfl rfl).trans ?_
  refine (bu (ls'' := [some (.ref l0), some (.ref l1), some (.ref l2), some (.ref l3), some (.int l4), some (.int s0), none, none]) (st' := [.int l4, .ref l0, .ref l2]) bf269_1286 bf269_1288 rfl rfl).trans ?_
  refine (bu (ls'' := [some (.ref l0), some (.ref l1), some (.ref l2), some (.ref l3), some (.int l4), some (.int s0), none, none]) (st' := [.int (nI 1), .int l4, .ref l0, .ref l2]) bf269_1288 bf269_1289 rfl rfl).trans ?_
  refine (bu (ls'' := [some (.ref l0), some (.ref l1), some (.ref l2), some (.ref l3), some (.int l4), some (.int s0), none, none]) (st' := [.int (l4 + (nI 1)), .ref l0, .ref l2]) bf269_1289 bf269_1290 rfl rfl).trans ?_
  exact bh bf269_1290 bf269_1291 rfl (fun _ _ => am_ge_rf w) rfl
theorem bk269_1354 {w : am_Wd} {l0 : Nat} {l1 : Nat} {l2 : Nat} {l3 : Nat} {l4 : Int32} {l5 : Int32} {s0 : Int32} {s1 : Nat} : am_run 269 1354 [some (.ref l0), some (.ref l1), some (.ref l2), some (.ref l3), some (.int l4), some (.int l5), none, none] [.int s0, .ref s1] w = (am_kf w s1 11).bind fun _ => (am_x 227 [.ref s1, .int s0] w).bind fun r => bct r fun v w' => am_run 269 1357 [some (.ref l0), some (.ref l1), some (.ref l2), some (.ref l3), some (.int l4), some (.int l5), none, none] (v.toList ++ []) w' := by
  exact bkV bf269_1354 bf269_1357 rfl (by decide +kernel) (Nat.le_of_ble_eq_true rfl) rfl (bhd rfl)
theorem bk269_1411 {w : am_Wd} {l0 : Nat} {l1 : Nat} {l2 : Nat} {l3 : Nat} {l4 : Int32} {l5 : Int32} {s0 : Int32} {s1 : Nat} : am_run 269 1411 [some (.ref l0), some (.ref l1), some (.ref l2), some (.ref l3), some (.int l4), some (.int l5), none, none] [.int s0, .ref s1] w = (am_kf w s1 11).bind fun _ => (am_x 246 [.ref s1, .int s0] w).bind fun r => bct r fun v w' => am_run 269 1414 [some (.ref l0), some (.ref l1), some (.ref l2), some (.ref l3), some (.int l4), some (.int l5), none, none] (v.toList ++ []) w' := by
  exact bkV bf269_1411 bf269_1414 rfl (by decide +kernel) (Nat.le_of_ble_eq_true rfl) rfl (bhd rfl)
theorem bk269_1468 {w : am_Wd} {l0 : Nat} {l1 : Nat} {l2 : Nat} {l3 : Nat} {l4 : Int32} {s0 : Int32} {s1 : Int32} {s2 : Int32} {s3 : Nat} : am_run 269 1468 [some (.ref l0), some (.ref l1), some (.ref l2), some (.ref l3), some (.int l4), none, none, none] [.int s0, .int s1, .int s2, .ref s3] w = (am_x 191 [.ref s3, .int s2, .int s1, .int s0, .ref l3] w).bind fun r => bct r fun v w' => am_run 269 1472 [some (.ref l0), some (.ref l1), some (.ref l2), some (.ref l3), some (.int l4), none, none, none] (v.toList ++ []) w' := by
  refine (bu (ls'' := [some (.ref l0), some (.ref l1), some (.ref l2), some (.ref l3), some (.int l4), none, none, none]) (st' := [.ref l3, .int s0, .int s1, .int s2, .ref s3]) bf269_1468 bf269_1469 rfl rfl).trans ?_
  exact bkS bf269_1469 bf269_1472 rfl (by decide +kernel) (Nat.le_of_ble_eq_true rfl) rfl (bhd rfl)
theorem bk269_1547 {w : am_Wd} {l0 : Nat} {l1 : Nat} {l2 : Nat} {l3 : Nat} {l4 : Int32} {s0 : Int32} : am_run 269 1547 [some (.ref l0), some (.ref l1), some (.ref l2), some (.ref l3), some (.int l4), none, none, none] [.int s0] w = (am_ri 0 w l0 (l4 + (nI 1))).bind fun v => am_run 269 1556 [some (.ref l0), some (.ref l1), some (.ref l2), some (.ref l3), some (.int l4), some (.int s0), none, none] (.int v :: [.ref l2]) w := by
  refine (bu (ls'' := [some (.ref l0), some (.ref l1), some (.ref l2), some (.ref l3), some (.int l4), some (.int s0), none, none]) (st' := []) bf269_1547 bf269_1549 rfl rfl).trans ?_
  refine (bu (ls'' := [some (.ref l0), some (.ref l1), some (.ref l2), some (.ref l3), some (.int l4), some (.int s0), none, none]) (st' := [.ref l2]) bf269_1549 bf269_1550 rfl rfl).trans ?_
  refine (bu (ls'' := [some (.ref l0), some (.ref l1), some (.ref l2), some (.ref l3), some (.int l4), some (.int s0), none, none]) (st' := [.ref l0, .ref l2]) bf269_1550 bf269_1551 rfl rfl).trans ?_
  refine (bu (ls'' := [some (.ref l0), some (.ref l1), some (.ref l2), some (.ref l3), some (.int l4), some (.int s0), none, none]) (st' := [.int l4, .ref l0, .ref l2]) bf269_1551 bf269_1553 rfl rfl).trans ?_
  refine (bu (ls'' := [some (.ref l0), some (.ref l1), some (.ref l2), some (.ref l3), some (.int l4), some (.int s0), none, none]) (st' := [.int (nI 1), .int l4, .ref l0, .ref l2]) bf269_1553 bf269_1554 rfl rfl).trans ?_
  refine (bu (ls'' := [some (.ref l0), some (.ref l1), some (.ref l2), some (.ref l3), some (.int l4), some (.int s0), none, none]) (st' := [.int (l4 + (nI 1)), .ref l0, .ref l2]) bf269_1554 bf269_1555 rfl rfl).trans ?_
  exact bh bf269_1555 bf269_1556 rfl (fun _ _ => am_ge_rf w) rfl
theorem bk269_1623 {w : am_Wd} {l0 : Nat} {l1 : Nat} {l2 : Nat} {l3 : Nat} {l4 : Int32} {s0 : Int32} : am_run 269 1623 [some (.ref l0), some (.ref l1), some (.ref l2), some (.ref l3), some (.int l4), none, none, none] [.int s0] w = (am_ri 0 w l0 (l4 + (nI 1))).bind fun v => am_run 269 1632 [some (.ref l0), some (.ref l1), some (.ref l2), some (.ref l3), some (.int l4), some (.int s0), none, none] (.int v :: [.ref l2]) w := by
  refine (bu (ls'' := [some (.ref l0), some (.ref l1), some (.ref l2), some (.ref l3), some (.int l4), some (.int s0), none, none]) (st' := []) bf269_1623 bf269_1625 rfl rfl).trans ?_
  refine (bu (ls'' := [some (.ref l0), some (.ref l1), some (.ref l2), some (.ref l3), some (.int l4), some (.int s0), none, none]) (st' := [.ref l2]) bf269_1625 bf269_1626 rfl rfl).trans ?_
  refine (bu (ls'' := [some (.ref l0), some (.ref l1), some (.ref l2), some (.ref l3), some (.int l4), some (.int s0), none, none]) (st' := [.ref l0, .ref l2]) bf269_1626 bf269_1627 rfl rfl).trans ?_
  refine (bu (ls'' := [some (.ref l0), some (.ref l1), some (.ref l2), some (.ref l3), some (.int l4), some (.int s0), none, none]) (st' := [.int l4, .ref l0, .ref l2]) bf269_1627 bf269_1629 rfl rfl).trans ?_
  refine (bu (ls'' := [some (.ref l0), some (.ref l1), some (.ref l2), some (.ref l3), some (.int l4), some (.int s0), none, none]) (st' := [.int (nI 1), .int l4, .ref l0, .ref l2]) bf269_1629 bf269_1630 rfl rfl).trans ?_
  refine (bu (ls'' := [some (.ref l0), some (.ref l1), some (.ref l2), some (.ref l3), some (.int l4), some (.int s0), none, none]) (st' := [.int (l4 + (nI 1)), .ref l0, .ref l2]) bf269_1630 bf269_1631 rfl rfl).trans ?_
  exact bh bf269_1631 bf269_1632 rfl (fun _ _ => am_ge_rf w) rfl
theorem bk269_1693 {w : am_Wd} {l0 : Nat} {l1 : Nat} {l2 : Nat} {l3 : Nat} {l4 : Int32} {s0 : Int32} {s1 : Int32} {s2 : Int32} {s3 : Nat} : am_run 269 1693 [some (.ref l0), some (.ref l1), some (.ref l2), some (.ref l3), some (.int l4), none, none, none] [.int s0, .int s1, .int s2, .ref s3] w = (am_x 194 [.ref s3, .int s2, .int s1, .int s0, .ref l3] w).bind fun r => bct r fun v w' => am_run 269 1697 [some (.ref l0), some (.ref l1), some (.ref l2), some (.ref l3), some (.int l4), none, none, none] (v.toList ++ []) w' := by
  refine (bu (ls'' := [some (.ref l0), some (.ref l1), some (.ref l2), some (.ref l3), some (.int l4), none, none, none]) (st' := [.ref l3, .int s0, .int s1, .int s2, .ref s3]) bf269_1693 bf269_1694 rfl rfl).trans ?_
  exact bkS bf269_1694 bf269_1697 rfl (by decide +kernel) (Nat.le_of_ble_eq_true rfl) rfl (bhd rfl)
theorem bk269_1772 {w : am_Wd} {l0 : Nat} {l1 : Nat} {l2 : Nat} {l3 : Nat} {l4 : Int32} {s0 : Int32} : am_run 269 1772 [some (.ref l0), some (.ref l1), some (.ref l2), some (.ref l3), some (.int l4), none, none, none] [.int s0] w = (am_ri 0 w l0 (l4 + (nI 1))).bind fun v => am_run 269 1781 [some (.ref l0), some (.ref l1), some (.ref l2), some (.ref l3), some (.int l4), some (.int s0), none, none] (.int v :: [.ref l2]) w := by
  refine (bu (ls'' := [some (.ref l0), some (.ref l1), some (.ref l2), some (.ref l3), some (.int l4), some (.int s0), none, none]) (st' := []) bf269_1772 bf269_1774 rfl rfl).trans ?_
  refine (bu (ls'' := [some (.ref l0), some (.ref l1), some (.ref l2), some (.ref l3), some (.int l4), some (.int s0), none, none]) (st' := [.ref l2]) bf269_1774 bf269_1775 rfl rfl).trans ?_
  refine (bu (ls'' := [some (.ref l0), some (.ref l1), some (.ref l2), some (.ref l3), some (.int l4), some (.int s0), none, none]) (st' := [.ref l0, .ref l2]) bf269_1775 bf269_1776 rfl rfl).trans ?_
  refine (bu (ls'' := [some (.ref l0), some (.ref l1), some (.ref l2), some (.ref l3), some (.int l4), some (.int s0), none, none]) (st' := [.int l4, .ref l0, .ref l2]) bf269_1776 bf269_1778 rfl rfl).trans ?_
  refine (bu (ls'' := [some (.ref l0), some (.ref l1), some (.ref l2), some (.ref l3), some (.int l4), some (.int s0), none, none]) (st' := [.int (nI 1), .int l4, .ref l0, .ref l2]) bf269_1778 bf269_1779 rfl rfl).trans ?_
  refine (bu (ls'' := [some (.ref l0), some (.ref l1), some (.ref l2), some (.ref l3), some (.int l4), some (.int s0), none, none]) (st' := [.int (l4 + (nI 1)), .ref l0, .ref l2]) bf269_1779 bf269_1780 rfl rfl).trans ?_
  exact bh bf269_1780 bf269_1781 rfl (fun _ _ => am_ge_rf w) rfl
theorem bk269_1844 {w : am_Wd} {l0 : Nat} {l1 : Nat} {l2 : Nat} {l3 : Nat} {l4 : Int32} {l5 : Int32} {s0 : Int32} {s1 : Nat} : am_run 269 1844 [some (.ref l0), some (.ref l1), some (.ref l2), some (.ref l3), some (.int l4), some (.int l5), none, none] [.int s0, .ref s1] w = (am_kf w s1 11).bind fun _ => (am_x 185 [.ref s1, .int s0] w).bind fun r => bct r fun v w' => am_run 269 1847 [some (.ref l0), some (.ref l1), some (.ref l2), some (.ref l3), some (.int l4), some (.int l5), none, none] (v.toList ++ []) w' := by
  exact bkV bf269_1844 bf269_1847 rfl (by decide +kernel) (Nat.le_of_ble_eq_true rfl) rfl (bhd rfl)
theorem bk269_1917 {w : am_Wd} {l0 : Nat} {l1 : Nat} {l2 : Nat} {l3 : Nat} {l4 : Int32} {s0 : Int32} : am_run 269 1917 [some (.ref l0), some (.ref l1), some (.ref l2), some (.ref l3), some (.int l4), none, none, none] [.int s0] w = (am_ri 0 w l0 (l4 + (nI 1))).bind fun v => am_run 269 1926 [some (.ref l0), some (.ref l1), some (.ref l2), some (.ref l3), some (.int l4), some (.int s0), none, none] (.int v :: [.ref l2]) w := by
  refine (bu (ls'' := [some (.ref l0), some (.ref l1), some (.ref l2), some (.ref l3), some (.int l4), some (.int s0), none, none]) (st' := []) bf269_1917 bf269_1919 rfl rfl).trans ?_
  refine (bu (ls'' := [some (.ref l0), some (.ref l1), some (.ref l2), some (.ref l3), some (.int l4), some (.int s0), none, none]) (st' := [.ref l2]) bf269_1919 bf269_1920 rfl rfl).trans ?_
  refine (bu (ls'' := [some (.ref l0), some (.ref l1), some (.ref l2), some (.ref l3), some (.int l4), some (.int s0), none, none]) (st' := [.ref l0, .ref l2]) bf269_1920 bf269_1921 rfl rfl).trans ?_
  refine (bu (ls'' := [some (.ref l0), some (.ref l1), some (.ref l2), some (.ref l3), some (.int l4), some (.int s0), none, none]) (st' := [.int l4, .ref l0, .ref l2]) bf269_1921 bf269_1923 rfl rfl).trans ?_
  refine (bu (ls'' := [some (.ref l0), some (.ref l1), some (.ref l2), some (.ref l3), some (.int l4), some (.int s0), none, none]) (st' := [.int (nI 1), .int l4, .ref l0, .ref l2]) bf269_1923 bf269_1924 rfl rfl).trans ?_
  refine (bu (ls'' := [some (.ref l0), some (.ref l1), some (.ref l2), some (.ref l3), some (.int l4), some (.int s0), none, none]) (st' := [.int (l4 + (nI 1)), .ref l0, .ref l2]) bf269_1924 bf269_1925 rfl rfl).trans ?_
  exact bh bf269_1925 bf269_1926 rfl (fun _ _ => am_ge_rf w) rfl
theorem bk269_1989 {w : am_Wd} {l0 : Nat} {l1 : Nat} {l2 : Nat} {l3 : Nat} {l4 : Int32} {l5 : Int32} {s0 : Int32} {s1 : Nat} : am_run 269 1989 [some (.ref l0), some (.ref l1), some (.ref l2), some (.ref l3), some (.int l4), some (.int l5), none, none] [.int s0, .ref s1] w = (am_kf w s1 11).bind fun _ => (am_x 252 [.ref s1, .int s0] w).bind fun r => bct r fun v w' => am_run 269 1992 [some (.ref l0), some (.ref l1), some (.ref l2), some (.ref l3), some (.int l4), some (.int l5), none, none] (v.toList ++ []) w' := by
  exact bkV bf269_1989 bf269_1992 rfl (by decide +kernel) (Nat.le_of_ble_eq_true rfl) rfl (bhd rfl)
theorem bk269_2043 {w : am_Wd} {l0 : Nat} {l1 : Nat} {l2 : Nat} {l3 : Nat} {l4 : Int32} {s0 : Int32} : am_run 269 2043 [some (.ref l0), some (.ref l1), some (.ref l2), some (.ref l3), some (.int l4), none, none, none] [.int s0] w = (am_ri 0 w l0 (l4 + (nI 1))).bind fun v => am_run 269 2052 [some (.ref l0), some (.ref l1), some (.ref l2), some (.ref l3), some (.int l4), some (.int s0), none, none] (.int v :: [.ref l2]) w := by
  refine (bu (ls'' := [some (.ref l0), some (.ref l1), some (.ref l2), some (.ref l3), some (.int l4), some (.int s0), none, none]) (st' := []) bf269_2043 bf269_2045 rfl rfl).trans ?_
  refine (bu (ls'' := [some (.ref l0), some (.ref l1), some (.ref l2), some (.ref l3), some (.int l4), some (.int s0), none, none]) (st' := [.ref l2]) bf269_2045 bf269_2046 rfl rfl).trans ?_
  refine (bu (ls'' := [some (.ref l0), some (.ref l1), some (.ref l2), some (.ref l3), some (.int l4), some (.int s0), none, none]) (st' := [.ref l0, .ref l2]) bf269_2046 bf269_2047 rfl rfl).trans ?_
  refine (bu (ls'' := [some (.ref l0), some (.ref l1), some (.ref l2), some (.ref l3), some (.int l4), some (.int s0), none, none]) (st' := [.int l4, .ref l0, .ref l2]) bf269_2047 bf269_2049 rfl rfl).trans ?_
  refine (bu (ls'' := [some (.ref l0), some (.ref l1), some (.ref l2), some (.ref l3), some (.int l4), some (.int s0), none, none]) (st' := [.int (nI 1), .int l4, .ref l0, .ref l2]) bf269_2049 bf269_2050 rfl rfl).trans ?_
  refine (bu (ls'' := [some (.ref l0), some (.ref l1), some (.ref l2), some (.ref l3), some (.int l4), some (.int s0), none, none]) (st' := [.int (l4 + (nI 1)), .ref l0, .ref l2]) bf269_2050 bf269_2051 rfl rfl).trans ?_
  exact bh bf269_2051 bf269_2052 rfl (fun _ _ => am_ge_rf w) rfl
theorem bk269_2112 {w : am_Wd} {l0 : Nat} {l1 : Nat} {l2 : Nat} {l3 : Nat} {l4 : Int32} {s0 : Int32} : am_run 269 2112 [some (.ref l0), some (.ref l1), some (.ref l2), some (.ref l3), some (.int l4), none, none, none] [.int s0] w = (am_ri 0 w l0 (l4 + (nI 1))).bind fun v => am_run 269 2121 [some (.ref l0), some (.ref l1), some (.ref l2), some (.ref l3), some (.int l4), some (.int s0), none, none] (.int v :: [.ref l2]) w := by
  refine (bu (ls'' := [some (.ref l0), some (.ref l1), some (.ref l2), some (.ref l3), some (.int l4), some (.int s0), none, none]) (st' := []) bf269_2112 bf269_2114 rfl rfl).trans ?_
  refine (bu (ls'' := [some (.ref l0), some (.ref l1), some (.ref l2), some (.ref l3), some (.int l4), some (.int s0), none, none]) (st' := [.ref l2]) bf269_2114 bf269_2115 rfl rfl).trans ?_
  refine (bu (ls'' := [some (.ref l0), some (.ref l1), some (.ref l2), some (.ref l3), some (.int l4), some (.int s0), none, none]) (st' := [.ref l0, .ref l2]) bf269_2115 bf269_2116 rfl rfl).trans ?_
  refine (bu (ls'' := [some (.ref l0), some (.ref l1), some (.ref l2), some (.ref l3), some (.int l4), some (.int s0), none, none]) (st' := [.int l4, .ref l0, .ref l2]) bf269_2116 bf269_2118 rfl rfl).trans ?_
  refine (bu (ls'' := [some (.ref l0), some (.ref l1), some (.ref l2), some (.ref l3), some (.int l4), some (.int s0), none, none]) (st' := [.int (nI 1), .int l4, .ref l0, .ref l2]) bf269_2118 bf269_2119 rfl rfl).trans ?_
  refine (bu (ls'' := [some (.ref l0), some (.ref l1), some (.ref l2), some (.ref l3), some (.int l4), some (.int s0), none, none]) (st' := [.int (l4 + (nI 1)), .ref l0, .ref l2]) bf269_2119 bf269_2120 rfl rfl).trans ?_
  exact bh bf269_2120 bf269_2121 rfl (fun _ _ => am_ge_rf w) rfl
theorem bk269_2175 {w : am_Wd}  : am_run 269 2175 [none, none, none, none, none, none, none, none] [] w = some (.inl (some (.int (nI 0))), w) := by
  refine (bu (ls'' := [none, none, none, none, none, none, none, none]) (st' := [.int (nI 0)]) bf269_2175 bf269_2176 rfl rfl).trans ?_
  exact am_e2 bf269_2176 rfl (am_ge_rf w)
theorem bk269_2189 {w : am_Wd}  : am_run 269 2189 [none, none, none, none, none, none, none, none] [] w = some (.inl (some (.int (nI 0))), w) := by
  refine (bu (ls'' := [none, none, none, none, none, none, none, none]) (st' := [.int (nI 0)]) bf269_2189 bf269_2190 rfl rfl).trans ?_
  exact am_e2 bf269_2190 rfl (am_ge_rf w)
theorem bk269_197 {w : am_Wd} {l0 : Nat} {l1 : Nat} {l2 : Nat} {l3 : Nat} {l4 : Int32} {s0 : Int32} {s1 : Int32} {s2 : Int32} {s3 : Int32} {s4 : Nat} : am_run 269 197 [some (.ref l0), some (.ref l1), some (.ref l2), some (.ref l3), some (.int l4), none, none, none] [.int s0, .int s1, .int s2, .int s3, .ref s4] w = (am_x 216 [.ref s4, .int s3, .int s2, .int s1, .int s0, .ref l3] w).bind fun r => bct r fun v w' => am_run 269 201 [some (.ref l0), some (.ref l1), some (.ref l2), some (.ref l3), some (.int l4), none, none, none] (v.toList ++ []) w' := by
  refine (bu (ls'' := [some (.ref l0), some (.ref l1), some (.ref l2), some (.ref l3), some (.int l4), none, none, none]) (st' := [.ref l3, .int s0, .int s1, .int s2, .int s3, .ref s4]) bf269_197 bf269_198 rfl rfl).trans ?_
  exact bkS bf269_198 bf269_201 rfl (by decide +kernel) (Nat.le_of_ble_eq_true rfl) rfl (bhd rfl)
theorem bk269_288 {w : am_Wd} {l0 : Nat} {l1 : Nat} {l2 : Nat} {l3 : Nat} {l4 : Int32} {l5 : Int32} {s0 : Int32} : am_run 269 288 [some (.ref l0), some (.ref l1), some (.ref l2), some (.ref l3), some (.int l4), some (.int l5), none, none] [.int s0] w = (am_kf w l2 11).bind fun _ => (am_x 266 [.ref l2] w).bind fun r => bct r fun v w' => am_run 269 294 [some (.ref l0), some (.ref l1), some (.ref l2), some (.ref l3), some (.int l4), some (.int l5), some (.int s0), none] (v.toList ++ []) w' := by
  refine (bu (ls'' := [some (.ref l0), some (.ref l1), some (.ref l2), some (.ref l3), some (.int l4), some (.int l5), some (.int s0), none]) (st' := []) bf269_288 bf269_290 rfl rfl).trans ?_
  refine (bu (ls'' := [some (.ref l0), some (.ref l1), some (.ref l2), some (.ref l3), some (.int l4), some (.int l5), some (.int s0), none]) (st' := [.ref l2]) bf269_290 bf269_291 rfl rfl).trans ?_
  exact bkV bf269_291 bf269_294 rfl (by decide +kernel) (Nat.le_of_ble_eq_true rfl) rfl (bhd rfl)
theorem bk269_343 {w : am_Wd} {l0 : Nat} {l1 : Nat} {l2 : Nat} {l3 : Nat} {l4 : Int32} {s0 : Int32} {s1 : Int32} {s2 : Nat} : am_run 269 343 [some (.ref l0), some (.ref l1), some (.ref l2), some (.ref l3), some (.int l4), none, none, none] [.int s0, .int s1, .ref s2] w = (am_ri 0 w l0 (l4 + (nI 3))).bind fun v => am_run 269 349 [some (.ref l0), some (.ref l1), some (.ref l2), some (.ref l3), some (.int l4), none, none, none] (.int v :: [.int s0, .int s1, .ref s2]) w := by
  refine (bu (ls'' := [some (.ref l0), some (.ref l1), some (.ref l2), some (.ref l3), some (.int l4), none, none, none]) (st' := [.ref l0, .int s0, .int s1, .ref s2]) bf269_343 bf269_344 rfl rfl).trans ?_
  refine (bu (ls'' := [some (.ref l0), some (.ref l1), some (.ref l2), some (.ref l3), some (.int l4), none, none, none]) (st' := [.int l4, .ref l0, .int s0, .int s1, .ref s2]) bf269_344 bf269_346 rfl rfl).trans ?_
  refine (bu (ls'' := [some (.ref l0), some (.ref l1), some (.ref l2), some (.ref l3), some (.int l4), none, none, none]) (st' := [.int (nI 3), .int l4, .ref l0, .int s0, .int s1, .ref s2]) bf269_346 bf269_347 rfl rfl).trans ?_
  refine (bu (ls'' := [some (.ref l0), some (.ref l1), some (.ref l2), some (.ref l3), some (.int l4), none, none, none]) (st' := [.int (l4 + (nI 3)), .ref l0, .int s0, .int s1, .ref s2]) bf269_347 bf269_348 rfl rfl).trans ?_
  exact bh bf269_348 bf269_349 rfl (fun _ _ => am_ge_rf w) rfl
theorem bk269_460 {w : am_Wd} {l0 : Nat} {l1 : Nat} {l2 : Nat} {l3 : Nat} {l4 : Int32} {s0 : Int32} {s1 : Int32} {s2 : Int32} {s3 : Int32} {s4 : Nat} : am_run 269 460 [some (.ref l0), some (.ref l1), some (.ref l2), some (.ref l3), some (.int l4), none, none, none] [.int s0, .int s1, .int s2, .int s3, .ref s4] w = if s0 = nI 0 then am_run 269 467 [some (.ref l0), some (.ref l1), some (.ref l2), some (.ref l3), some (.int l4), none, none, none] [.int s1, .int s2, .int s3, .ref s4] w else am_run 269 463 [some (.ref l0), some (.ref l1), some (.ref l2), some (.ref l3), some (.int l4), none, none, none] [.int s1, .int s2, .int s3, .ref s4] w := by
  exact bifc bf269_460 rfl bf269_467 bf269_463 rfl rfl rfl
theorem bk269_565 {w : am_Wd} {l0 : Nat} {l1 : Nat} {l2 : Nat} {l3 : Nat} {l4 : Int32} {s0 : Int32} {s1 : Int32} {s2 : Nat} : am_run 269 565 [some (.ref l0), some (.ref l1), some (.ref l2), some (.ref l3), some (.int l4), none, none, none] [.int s0, .int s1, .ref s2] w = (am_x 253 [.ref s2, .int s1, .int s0, .ref l3] w).bind fun r => bct r fun v w' => am_run 269 569 [some (.ref l0), some (.ref l1), some (.ref l2), some (.ref l3), some (.int l4), none, none, none] (v.toList ++ []) w' := by
  refine (bu (ls'' := [some (.ref l0), some (.ref l1), some (.ref l2), some (.ref l3), some (.int l4), none, none, none]) (st' := [.ref l3, .int s0, .int s1, .ref s2]) bf269_565 bf269_566 rfl rfl).trans ?_
  exact bkS bf269_566 bf269_569 rfl (by decide +kernel) (Nat.le_of_ble_eq_true rfl) rfl (bhd rfl)
theorem bk269_657 {w : am_Wd} {l0 : Nat} {l1 : Nat} {l2 : Nat} {l3 : Nat} {l4 : Int32} {s0 : Int32} {s1 : Int32} {s2 : Nat} : am_run 269 657 [some (.ref l0), some (.ref l1), some (.ref l2), some (.ref l3), some (.int l4), none, none, none] [.int s0, .int s1, .ref s2] w = (am_ri 0 w l0 (l4 + (nI 3))).bind fun v => am_run 269 663 [some (.ref l0), some (.ref l1), some (.ref l2), some (.ref l3), some (.int l4), none, none, none] (.int v :: [.int s0, .int s1, .ref s2]) w := by
  refine (bu (ls'' := [some (.ref l0), some (.ref l1), some (.ref l2), some (.ref l3), some (.int l4), none, none, none]) (st' := [.ref l0, .int s0, .int s1, .ref s2]) bf269_657 bf269_658 rfl rfl).trans ?_
  refine (bu (ls'' := [some (.ref l0), some (.ref l1), some (.ref l2), some (.ref l3), some (.int l4), none, none, none]) (st' := [.int l4, .ref l0, .int s0, .int s1, .ref s2]) bf269_658 bf269_660 rfl rfl).trans ?_
  refine (bu (ls'' := [some (.ref l0), some (.ref l1), some (.ref l2), some (.ref l3), some (.int l4), none, none, none]) (st' := [.int (nI 3), .int l4, .ref l0, .int s0, .int s1, .ref s2]) bf269_660 bf269_661 rfl rfl).trans ?_
  refine (bu (ls'' := [some (.ref l0), some (.ref l1), some (.ref l2), some (.ref l3), some (.int l4), none, none, none]) (st' := [.int (l4 + (nI 3)), .ref l0, .int s0, .int s1, .ref s2]) bf269_661 bf269_662 rfl rfl).trans ?_
  exact bh bf269_662 bf269_663 rfl (fun _ _ => am_ge_rf w) rfl
theorem bk269_770 {w : am_Wd} {l0 : Nat} {l1 : Nat} {l2 : Nat} {l3 : Nat} {l4 : Int32} {s0 : Int32} {s1 : Int32} {s2 : Nat} : am_run 269 770 [some (.ref l0), some (.ref l1), some (.ref l2), some (.ref l3), some (.int l4), none, none, none] [.int s0, .int s1, .ref s2] w = (am_x 255 [.ref s2, .int s1, .int s0, .ref l3] w).bind fun r => bct r fun v w' => am_run 269 774 [some (.ref l0), some (.ref l1), some (.ref l2), some (.ref l3), some (.int l4), none, none, none] (v.toList ++ []) w' := by
  refine (bu (ls'' := [some (.ref l0), some (.ref l1), some (.ref l2), some (.ref l3), some (.int l4), none, none, none]) (st' := [.ref l3, .int s0, .int s1, .ref s2]) bf269_770 bf269_771 rfl rfl).trans ?_
  exact bkS bf269_771 bf269_774 rfl (by decide +kernel) (Nat.le_of_ble_eq_true rfl) rfl (bhd rfl)
theorem bk269_855 {w : am_Wd} {l0 : Nat} {l1 : Nat} {l2 : Nat} {l3 : Nat} {l4 : Int32} {s0 : Int32} {s1 : Int32} {s2 : Nat} : am_run 269 855 [some (.ref l0), some (.ref l1), some (.ref l2), some (.ref l3), some (.int l4), none, none, none] [.int s0, .int s1, .ref s2] w = (am_x 256 [.ref s2, .int s1, .int s0, .ref l3] w).bind fun r => bct r fun v w' => am_run 269 859 [some (.ref l0), some (.ref l1), some (.ref l2), some (.ref l3), some (.int l4), none, none, none] (v.toList ++ []) w' := by
  refine (bu (ls'' := [some (.ref l0), some (.ref l1), some (.ref l2), some (.ref l3), some (.int l4), none, none, none]) (st' := [.ref l3, .int s0, .int s1, .ref s2]) bf269_855 bf269_856 rfl rfl).trans ?_
  exact bkS bf269_856 bf269_859 rfl (by decide +kernel) (Nat.le_of_ble_eq_true rfl) rfl (bhd rfl)
theorem bk269_945 {w : am_Wd} {l0 : Nat} {l1 : Nat} {l2 : Nat} {l3 : Nat} {l4 : Int32} {l5 : Int32} {s0 : Int32} {s1 : Nat} : am_run 269 945 [some (.ref l0), some (.ref l1), some (.ref l2), some (.ref l3), some (.int l4), some (.int l5), none, none] [.int s0, .ref s1] w = (am_ri 0 w l0 (l4 + (nI 2))).bind fun v => am_run 269 951 [some (.ref l0), some (.ref l1), some (.ref l2), some (.ref l3), some (.int l4), some (.int l5), none, none] (.int v :: [.int s0, .ref s1]) w := by
  refine (bu (ls'' := [some (.ref l0), some (.ref l1), some (.ref l2), some (.ref l3), some (.int l4), some (.int l5), none, none]) (st' := [.ref l0, .int s0, .ref s1]) bf269_945 bf269_946 rfl rfl).trans ?_
  refine (bu (ls'' := [some (.ref l0), some (.ref l1), some (.ref l2), some (.ref l3), some (.int l4), some (.int l5), none, none]) (st' := [.int l4, .ref l0, .int s0, .ref s1]) bf269_946 bf269_948 rfl rfl).trans ?_
  refine (bu (ls'' := [some (.ref l0), some (.ref l1), some (.ref l2), some (.ref l3), some (.int l4), some (.int l5), none, none]) (st' := [.int (nI 2), .int l4, .ref l0, .int s0, .ref s1]) bf269_948 bf269_949 rfl rfl).trans ?_
  refine (bu (ls'' := [some (.ref l0), some (.ref l1), some (.ref l2), some (.ref l3), some (.int l4), some (.int l5), none, none]) (st' := [.int (l4 + (nI 2)), .ref l0, .int s0, .ref s1]) bf269_949 bf269_950 rfl rfl).trans ?_
  exact bh bf269_950 bf269_951 rfl (fun _ _ => am_ge_rf w) rfl
theorem bk269_1011 {w : am_Wd} {l0 : Nat} {l1 : Nat} {l2 : Nat} {l3 : Nat} {l4 : Int32} {l5 : Int32} {s0 : Int32} : am_run 269 1011 [some (.ref l0), some (.ref l1), some (.ref l2), some (.ref l3), some (.int l4), some (.int l5), none, none] [.int s0] w = (am_kf w l2 11).bind fun _ => (am_x 266 [.ref l2] w).bind fun r => bct r fun v w' => am_run 269 1017 [some (.ref l0), some (.ref l1), some (.ref l2), some (.ref l3), some (.int l4), some (.int l5), some (.int s0), none] (v.toList ++ []) w' := by
  refine (bu (ls'' := [some (.ref l0), some (.ref l1), some (.ref l2), some (.ref l3), some (.int l4), some (.int l5), some (.int s0), none]) (st' := []) bf269_1011 bf269_1013 rfl rfl).trans ?_
  refine (bu (ls'' := [some (.ref l0), some (.ref l1), some (.ref l2), some (.ref l3), some (.int l4), some (.int l5), some (.int s0), none]) (st' := [.ref l2]) bf269_1013 bf269_1014 rfl rfl).trans ?_
  exact bkV bf269_1014 bf269_1017 rfl (by decide +kernel) (Nat.le_of_ble_eq_true rfl) rfl (bhd rfl)
theorem bk269_1071 {w : am_Wd} {l0 : Nat} {l1 : Nat} {l2 : Nat} {l3 : Nat} {l4 : Int32} {l5 : Int32} {s0 : Int32} {s1 : Nat} : am_run 269 1071 [some (.ref l0), some (.ref l1), some (.ref l2), some (.ref l3), some (.int l4), some (.int l5), none, none] [.int s0, .ref s1] w = (am_ri 0 w l0 (l4 + (nI 2))).bind fun v => am_run 269 1077 [some (.ref l0), some (.ref l1), some (.ref l2), some (.ref l3), some (.int l4), some (.int l5), none, none] (.int v :: [.int s0, .ref s1]) w := by
  refine (bu (ls'' := [some (.ref l0), some (.ref l1), some (.ref l2), some (.ref l3), some (.int l4), some (.int l5), none, none]) (st' := [.ref l0, .int s0, .ref s1]) bf269_1071 bf269_1072 rfl rfl).trans ?_
  refine (bu (ls'' := [some (.ref l0), some (.ref l1), some (.ref l2), some (.ref l3), some (.int l4), some (.int l5), none, none]) (st' := [.int l4, .ref l0, .int s0, .ref s1]) bf269_1072 bf269_1074 rfl rfl).trans ?_
  refine (bu (ls'' := [some (.ref l0), some (.ref l1), some (.ref l2), some (.ref l3), some (.int l4), some (.int l5), none, none]) (st' := [.int (nI 2), .int l4, .ref l0, .int s0, .ref s1]) bf269_1074 bf269_1075 rfl rfl).trans ?_
  refine (bu (ls'' := [some (.ref l0), some (.ref l1), some (.ref l2), some (.ref l3), some (.int l4), some (.int l5), none, none]) (st' := [.int (l4 + (nI 2)), .ref l0, .int s0, .ref s1]) bf269_1075 bf269_1076 rfl rfl).trans ?_
  exact bh bf269_1076 bf269_1077 rfl (fun _ _ => am_ge_rf w) rfl
theorem bk269_1137 {w : am_Wd} {l0 : Nat} {l1 : Nat} {l2 : Nat} {l3 : Nat} {l4 : Int32} {l5 : Int32} {s0 : Int32} : am_run 269 1137 [some (.ref l0), some (.ref l1), some (.ref l2), some (.ref l3), some (.int l4), some (.int l5), none, none] [.int s0] w = (am_kf w l2 11).bind fun _ => (am_x 266 [.ref l2] w).bind fun r => bct r fun v w' => am_run 269 1143 [some (.ref l0), some (.ref l1), some (.ref l2), some (.ref l3), some (.int l4), some (.int l5), some (.int s0), none] (v.toList ++ []) w' := by
  refine (bu (ls'' := [some (.ref l0), some (.ref l1), some (.ref l2), some (.ref l3), some (.int l4), some (.int l5), some (.int s0), none]) (st' := []) bf269_1137 bf269_1139 rfl rfl).trans ?_
  refine (bu (ls'' := [some (.ref l0), some (.ref l1), some (.ref l2), some (.ref l3), some (.int l4), some (.int l5), some (.int s0), none]) (st' := [.ref l2]) bf269_1139 bf269_1140 rfl rfl).trans ?_
  exact bkV bf269_1140 bf269_1143 rfl (by decide +kernel) (Nat.le_of_ble_eq_true rfl) rfl (bhd rfl)
theorem bk269_1207 {w : am_Wd} {l0 : Nat} {l1 : Nat} {l2 : Nat} {l3 : Nat} {l4 : Int32} {s0 : Int32} : am_run 269 1207 [some (.ref l0), some (.ref l1), some (.ref l2), some (.ref l3), some (.int l4), none, none, none] [.int s0] w = (am_ri 0 w l0 (l4 + (nI 1))).bind fun v => am_run 269 1216 [some (.ref l0), some (.ref l1), some (.ref l2), some (.ref l3), some (.int l4), some (.int s0), none, none] (.int v :: [.ref l2]) w := by
  refine (bu (ls'' := [some (.ref l0), some (.ref l1), some (.ref l2), some (.ref l3), some (.int l4), some (.int s0), none, none]) (st' := []) bf269_1207 bf269_1209 rfl rfl).trans ?_
  refine (bu (ls'' := [some (.ref l0), some (.ref l1), some (.ref l2), some (.ref l3), some (.int l4), some (.int s0), none, none]) (st' := [.ref l2]) bf269_1209 bf269_1210 rfl rfl).trans ?_
  refine (bu (ls'' := [some (.ref l0), some (.ref l1), some (.ref l2), some (.ref l3), some (.int l4), some (.int s0), none, none]) (st' := [.ref l0, .ref l2]) bf269_1210 bf269_1211 rfl rfl).trans ?_
  refine (bu (ls'' := [some (.ref l0), some (.ref l1), some (.ref l2), some (.ref l3), some (.int l4), some (.int s0), none, none]) (st' := [.int l4, .ref l0, .ref l2]) bf269_1211 bf269_1213 rfl rfl).trans ?_
  refine (bu (ls'' := [some (.ref l0), some (.ref l1), some (.ref l2), some (.ref l3), some (.int l4), some (.int s0), none, none]) (st' := [.int (nI 1), .int l4, .ref l0, .ref l2]) bf269_1213 bf269_1214 rfl rfl).trans ?_
  refine (bu (ls'' := [some (.ref l0), some (.ref l1), some (.ref l2), some (.ref l3), some (.int l4), some (.int s0), none, none]) (st' := [.int (l4 + (nI 1)), .ref l0, .ref l2]) bf269_1214 bf269_1215 rfl rfl).trans ?_
  exact bh bf269_1215 bf269_1216 rfl (fun _ _ => am_ge_rf w) rfl
theorem bk269_1291 {w : am_Wd} {l0 : Nat} {l1 : Nat} {l2 : Nat} {l3 : Nat} {l4 : Int32} {l5 : Int32} {s0 : Int32} {s1 : Nat} : am_run 269 1291 [some (.ref l0), some (.ref l1), some (.ref l2), some (.ref l3), some (.int l4), some (.int l5), none, none] [.int s0, .ref s1] w = (am_ri 0 w l0 (l4 + (nI 2))).bind fun v => am_run 269 1297 [some (.ref l0), some (.ref l1), some (.ref l2), some (.ref l3), some (.int l4), some (.int l5), none, none] (.int v :: [.int s0, .ref s1]) w := by
  refine (bu (ls'' := [some (.ref l0), some (.ref l1), some (.ref l2), some (.ref l3), some (.int l4), some (.int l5), none, none]) (st' := [.ref l0, .int s0, .ref s1]) bf269_1291 bf269_1292 rfl rfl).trans ?_
  refine (bu (ls'' := [some (.ref l0), some (.ref l1), some (.ref l2), some (.ref l3), some (.int l4), some (.int l5), none, none]) (st' := [.int l4, .ref l0, .int s0, .ref s1]) bf269_1292 bf269_1294 rfl rfl).trans ?_
  refine (bu (ls'' := [some (.ref l0), some (.ref l1), some (.ref l2), some (.ref l3), some (.int l4), some (.int l5), none, none]) (st' := [.int (nI 2), .int l4, .ref l0, .int s0, .ref s1]) bf269_1294 bf269_1295 rfl rfl).trans ?_
  refine (bu (ls'' := [some (.ref l0), some (.ref l1), some (.ref l2), some (.ref l3), some (.int l4), some (.int l5), none, none]) (st' := [.int (l4 + (nI 2)), .ref l0, .int s0, .ref s1]) bf269_1295 bf269_1296 rfl rfl).trans ?_
  exact bh bf269_1296 bf269_1297 rfl (fun _ _ => am_ge_rf w) rfl
theorem bk269_1357 {w : am_Wd} {l0 : Nat} {l1 : Nat} {l2 : Nat} {l3 : Nat} {l4 : Int32} {l5 : Int32} {s0 : Int32} : am_run 269 1357 [some (.ref l0), some (.ref l1), some (.ref l2), some (.ref l3), some (.int l4), some (.int l5), none, none] [.int s0] w = (am_kf w l2 11).bind fun _ => (am_x 266 [.ref l2] w).bind fun r => bct r fun v w' => am_run 269 1363 [some (.ref l0), some (.ref l1), some (.ref l2), some (.ref l3), some (.int l4), some (.int l5), some (.int s0), none] (v.toList ++ []) w' := by
  refine (bu (ls'' := [some (.ref l0), some (.ref l1), some (.ref l2), some (.ref l3), some (.int l4), some (.int l5), some (.int s0), none]) (st' := []) bf269_1357 bf269_1359 rfl rfl).trans ?_
  refine (bu (ls'' := [some (.ref l0), some (.ref l1), some (.ref l2), some (.ref l3), some (.int l4), some (.int l5), some (.int s0), none]) (st' := [.ref l2]) bf269_1359 bf269_1360 rfl rfl).trans ?_
  exact bkV bf269_1360 bf269_1363 rfl (by decide +kernel) (Nat.le_of_ble_eq_true rfl) rfl (bhd rfl)
theorem bk269_1414 {w : am_Wd} {l0 : Nat} {l1 : Nat} {l2 : Nat} {l3 : Nat} {l4 : Int32} {l5 : Int32} {s0 : Nat} : am_run 269 1414 [some (.ref l0), some (.ref l1), some (.ref l2), some (.ref l3), some (.int l4), some (.int l5), none, none] [.ref s0] w = (am_kf w l2 11).bind fun _ => (am_x 266 [.ref l2] w).bind fun r => bct r fun v w' => am_run 269 1420 [some (.ref l0), some (.ref l1), some (.ref l2), some (.ref l3), some (.int l4), some (.int l5), some (.ref s0), none] (v.toList ++ []) w' := by
  refine (bu (ls'' := [some (.ref l0), some (.ref l1), some (.ref l2), some (.ref l3), some (.int l4), some (.int l5), some (.ref s0), none]) (st' := []) bf269_1414 bf269_1416 rfl rfl).trans ?_
  refine (bu (ls'' := [some (.ref l0), some (.ref l1), some (.ref l2), some (.ref l3), some (.int l4), some (.int l5), some (.ref s0), none]) (st' := [.ref l2]) bf269_1416 bf269_1417 rfl rfl).trans ?_
  exact bkV bf269_1417 bf269_1420 rfl (by decide +kernel) (Nat.le_of_ble_eq_true rfl) rfl (bhd rfl)
theorem bk269_1472 {w : am_Wd} {l0 : Nat} {l1 : Nat} {l2 : Nat} {l3 : Nat} {l4 : Int32} {s0 : Int32} : am_run 269 1472 [some (.ref l0), some (.ref l1), some (.ref l2), some (.ref l3), some (.int l4), none, none, none] [.int s0] w = (am_ri 0 w l0 (l4 + (nI 1))).bind fun v => am_run 269 1481 [some (.ref l0), some (.ref l1), some (.ref l2), some (.ref l3), some (.int l4), some (.int s0), none, none] (.int v :: [.ref l2]) w := by
  refine (bu (ls'' := [some (.ref l0), some (.ref l1), some (.ref l2), some (.ref l3), some (.int l4), some (.int s0), none, none]) (st' := []) bf269_1472 bf269_1474 rfl rfl).trans ?_
  refine (bu (ls'' := [some (.ref l0), some (.ref l1), some (.ref l2), some (.ref l3), some (.int l4), some (.int s0), none, none]) (st' := [.ref l2]) bf269_1474 bf269_1475 rfl rfl).trans ?_
  refine (bu (ls'' := [some (.ref l0), some (.ref l1), some (.ref l2), some (.ref l3), some (.int l4), some (.int s0), none, none]) (st' := [.ref l0, .ref l2]) bf269_1475 bf269_1476 rfl rfl).trans ?_
  refine (bu (ls'' := [some (.ref l0), some (.ref l1), some (.ref l2), some (.ref l3), some (.int l4), some (.int s0), none, none]) (st' := [.int l4, .ref l0, .ref l2]) bf269_1476 bf269_1478 rfl rfl).trans ?_
  refine (bu (ls'' := [some (.ref l0), some (.ref l1), some (.ref l2), some (.ref l3), some (.int l4), some (.int s0), none, none]) (st' := [.int (nI 1), .int l4, .ref l0, .ref l2]) bf269_1478 bf269_1479 rfl rfl).trans ?_
  refine (bu (ls'' := [some (.ref l0), some (.ref l1), some (.ref l2), some (.ref l3), some (.int l4), some (.int s0), none, none]) (st' := [.int (l4 + (nI 1)), .ref l0, .ref l2]) bf269_1479 bf269_1480 rfl rfl).trans ?_
  exact bh bf269_1480 bf269_1481 rfl (fun _ _ => am_ge_rf w) rfl
theorem bk269_1556 {w : am_Wd} {l0 : Nat} {l1 : Nat} {l2 : Nat} {l3 : Nat} {l4 : Int32} {l5 : Int32} {s0 : Int32} {s1 : Nat} : am_run 269 1556 [some (.ref l0), some (.ref l1), some (.ref l2), some (.ref l3), some (.int l4), some (.int l5), none, none] [.int s0, .ref s1] w = (am_ri 0 w l0 (l4 + (nI 2))).bind fun v => am_run 269 1562 [some (.ref l0), some (.ref l1), some (.ref l2), some (.ref l3), some (.int l4), some (.int l5), none, none] (.int v :: [.int s0, .ref s1]) w := by
  refine (bu (ls'' := [some (.ref l0), some (.ref l1), some (.ref l2), some (.ref l3), some (.int l4), some (.int l5), none, none]) (st' := [.ref l0, .int s0, .ref s1]) bf269_1556 bf269_1557 rfl rfl).trans ?_
  refine (bu (ls'' := [some (.ref l0), some (.ref l1), some (.ref l2), some (.ref l3), some (.int l4), some (.int l5), none, none]) (st' := [.int l4, .ref l0, .int s0, .ref s1]) bf269_1557 bf269_1559 rfl rfl).trans ?_
  refine (bu (ls'' := [some (.ref l0), some (.ref l1), some (.ref l2), some (.ref l3), some (.int l4), some (.int l5), none, none]) (st' := [.int (nI 2), .int l4, .ref l0, .int s0, .ref s1]) bf269_1559 bf269_1560 rfl rfl).trans ?_
  refine (bu (ls'' := [some (.ref l0), some (.ref l1), some (.ref l2), some (.ref l3), some (.int l4), some (.int l5), none, none]) (st' := [.int (l4 + (nI 2)), .ref l0, .int s0, .ref s1]) bf269_1560 bf269_1561 rfl rfl).trans ?_
  exact bh bf269_1561 bf269_1562 rfl (fun _ _ => am_ge_rf w) rfl
theorem bk269_1632 {w : am_Wd} {l0 : Nat} {l1 : Nat} {l2 : Nat} {l3 : Nat} {l4 : Int32} {l5 : Int32} {s0 : Int32} {s1 : Nat} : am_run 269 1632 [some (.ref l0), some (.ref l1), some (.ref l2), some (.ref l3), some (.int l4), some (.int l5), none, none] [.int s0, .ref s1] w = (am_ri 0 w l0 (l4 + (nI 2))).bind fun v => am_run 269 1638 [some (.ref l0), some (.ref l1), some (.ref l2), some (.ref l3), some (.int l4), some (.int l5), none, none] (.int v :: [.int s0, .ref s1]) w := by
  refine (bu (ls'' := [some (.ref l0), some (.ref l1), some (.ref l2), some (.ref l3), some (.int l4), some (.int l5), none, none]) (st' := [.ref l0, .int s0, .ref s1]) bf269_1632 bf269_1633 rfl rfl).trans ?_
  refine (bu (ls'' := [some (.ref l0), some (.ref l1), some (.ref l2), some (.ref l3), some (.int l4), some (.int l5), none, none]) (st' := [.int l4, .ref l0, .int s0, .ref s1]) bf269_1633 bf269_1635 rfl rfl).trans ?_
  refine (bu (ls'' := [some (.ref l0), some (.ref l1), some (.ref l2), some (.ref l3), some (.int l4), some (.int l5), none, none]) (st' := [.int (nI 2), .int l4, .ref l0, .int s0, .ref s1]) bf269_1635 bf269_1636 rfl rfl).trans ?_
  refine (bu (ls'' := [some (.ref l0), some (.ref l1), some (.ref l2), some (.ref l3), some (.int l4), some (.int l5), none, none]) (st' := [.int (l4 + (nI 2)), .ref l0, .int s0, .ref s1]) bf269_1636 bf269_1637 rfl rfl).trans ?_
  exact bh bf269_1637 bf269_1638 rfl (fun _ _ => am_ge_rf w) rfl
theorem bk269_1697 {w : am_Wd} {l0 : Nat} {l1 : Nat} {l2 : Nat} {l3 : Nat} {l4 : Int32} {s0 : Int32} : am_run 269 1697 [some (.ref l0), some (.ref l1), some (.ref l2), some (.ref l3), some (.int l4), none, none, none] [.int s0] w = (am_ri 0 w l0 (l4 + (nI 1))).bind fun v => am_run 269 1706 [some (.ref l0), some (.ref l1), some (.ref l2), some (.ref l3), some (.int l4), some (.int s0), none, none] (.int v :: [.ref l2]) w := by
  refine (bu (ls'' := [some (.ref l0), some (.ref l1), some (.ref l2), some (.ref l3), some (.int l4), some (.int s0), none, none]) (st' := []) bf269_1697 bf269_1699 rfl rfl).trans ?_
  refine (bu (ls'' := [some (.ref l0), some (.ref l1), some (.ref l2), some (.ref l3), some (.int l4), some (.int s0), none, none]) (st' := [.ref l2]) bf269_1699 bf269_1700 rfl rfl).trans ?_
  refine (bu (ls'' := [some (.ref l0), some (.ref l1), some (.ref l2), some (.ref l3), some (.int l4), some (.int s0), none, none]) (st' := [.ref l0, .ref l2]) bf269_1700 bf269_1701 rfl rfl).trans ?_
  refine (bu (ls'' := [some (.ref l0), some (.ref l1), some (.ref l2), some (.ref l3), some (.int l4), some (.int s0), none, none]) (st' := [.int l4, .ref l0, .ref l2]) bf269_1701 bf269_1703 rfl rfl).trans ?_
  refine (bu (ls'' := [some (.ref l0), some (.ref l1), some (.ref l2), some (.ref l3), some (.int l4), some (.int s0), none, none]) (st' := [.int (nI 1), .int l4, .ref l0, .ref l2]) bf269_1703 bf269_1704 rfl rfl).trans ?_
  refine (bu (ls'' := [some (.ref l0), some (.ref l1), some (.ref l2), some (.ref l3), some (.int l4), some (.int s0), none, none]) (st' := [.int (l4 + (nI 1)), .ref l0, .ref l2]) bf269_1704 bf269_1705 rfl rfl).trans ?_
  exact bh bf269_1705 bf269_1706 rfl (fun _ _ => am_ge_rf w) rfl
theorem bk269_1781 {w : am_Wd} {l0 : Nat} {l1 : Nat} {l2 : Nat} {l3 : Nat} {l4 : Int32} {l5 : Int32} {s0 : Int32} {s1 : Nat} : am_run 269 1781 [some (.ref l0), some (.ref l1), some (.ref l2), some (.ref l3), some (.int l4), some (.int l5), none, none] [.int s0, .ref s1] w = (am_ri 0 w l0 (l4 + (nI 2))).bind fun v => am_run 269 1787 [some (.ref l0), some (.ref l1), some (.ref l2), some (.ref l3), some (.int l4), some (.int l5), none, none] (.int v :: [.int s0, .ref s1]) w := by
  refine (bu (ls'' := [some (.ref l0), some (.ref l1), some (.ref l2), some (.ref l3), some (.int l4), some (.int l5), none, none]) (st' := [.ref l0, .int s0, .ref s1]) bf269_1781 bf269_1782 rfl rfl).trans ?_
  refine (bu (ls'' := [some (.ref l0), some (.ref l1), some (.ref l2), some (.ref l3), some (.int l4), some (.int l5), none, none]) (st' := [.int l4, .ref l0, .int s0, .ref s1]) bf269_1782 bf269_1784 rfl rfl).trans ?_
  refine (bu (ls'' := [some (.ref l0), some (.ref l1), some (.ref l2), some (.ref l3), some (.int l4), some (.int l5), none, none]) (st' := [.int (nI 2), .int l4, .ref l0, .int s0, .ref s1]) bf269_1784 bf269_1785 rfl rfl).trans ?_
  refine (bu (ls'' := [some (.ref l0), some (.ref l1), some (.ref l2), some (.ref l3), some (.int l4), some (.int l5), none, none]) (st' := [.int (l4 + (nI 2)), .ref l0, .int s0, .ref s1]) bf269_1785 bf269_1786 rfl rfl).trans ?_
  exact bh bf269_1786 bf269_1787 rfl (fun _ _ => am_ge_rf w) rfl
theorem bk269_1847 {w : am_Wd} {l0 : Nat} {l1 : Nat} {l2 : Nat} {l3 : Nat} {l4 : Int32} {l5 : Int32} {s0 : UInt64} : am_run 269 1847 [some (.ref l0), some (.ref l1), some (.ref l2), some (.ref l3), some (.int l4), some (.int l5), none, none] [.double s0] w = (am_kf w l2 11).bind fun _ => (am_x 266 [.ref l2] w).bind fun r => bct r fun v w' => am_run 269 1853 [some (.ref l0), some (.ref l1), some (.ref l2), some (.ref l3), some (.int l4), some (.int l5), some (.double s0), none] (v.toList ++ []) w' := by
  refine (bu (ls'' := [some (.ref l0), some (.ref l1), some (.ref l2), some (.ref l3), some (.int l4), some (.int l5), some (.double s0), none]) (st' := []) bf269_1847 bf269_1849 rfl rfl).trans ?_
  refine (bu (ls'' := [some (.ref l0), some (.ref l1), some (.ref l2), some (.ref l3), some (.int l4), some (.int l5), some (.double s0), none]) (st' := [.ref l2]) bf269_1849 bf269_1850 rfl rfl).trans ?_
  exact bkV bf269_1850 bf269_1853 rfl (by decide +kernel) (Nat.le_of_ble_eq_true rfl) rfl (bhd rfl)
theorem bk269_1926 {w : am_Wd} {l0 : Nat} {l1 : Nat} {l2 : Nat} {l3 : Nat} {l4 : Int32} {l5 : Int32} {s0 : Int32} {s1 : Nat} : am_run 269 1926 [some (.ref l0), some (.ref l1), some (.ref l2), some (.ref l3), some (.int l4), some (.int l5), none, none] [.int s0, .ref s1] w = (am_ri 0 w l0 (l4 + (nI 2))).bind fun v => am_run 269 1932 [some (.ref l0), some (.ref l1), some (.ref l2), some (.ref l3), some (.int l4), some (.int l5), none, none] (.int v :: [.int s0, .ref s1]) w := by
  refine (bu (ls'' := [some (.ref l0), some (.ref l1), some (.ref l2), some (.ref l3), some (.int l4), some (.int l5), none, none]) (st' := [.ref l0, .int s0, .ref s1]) bf269_1926 bf269_1927 rfl rfl).trans ?_
  refine (bu (ls'' := [some (.ref l0), some (.ref l1), some (.ref l2), some (.ref l3), some (.int l4), some (.int l5), none, none]) (st' := [.int l4, .ref l0, .int s0, .ref s1]) bf269_1927 bf269_1929 rfl rfl).trans ?_
  refine (bu (ls'' := [some (.ref l0), some (.ref l1), some (.ref l2), some (.ref l3), some (.int l4), some (.int l5), none, none]) (st' := [.int (nI 2), .int l4, .ref l0, .int s0, .ref s1]) bf269_1929 bf269_1930 rfl rfl).trans ?_
  refine (bu (ls'' := [some (.ref l0), some (.ref l1), some (.ref l2), some (.ref l3), some (.int l4), some (.int l5), none, none]) (st' := [.int (l4 + (nI 2)), .ref l0, .int s0, .ref s1]) bf269_1930 bf269_1931 rfl rfl).trans ?_
  exact bh bf269_1931 bf269_1932 rfl (fun _ _ => am_ge_rf w) rfl
theorem bk269_1992 {w : am_Wd} {l0 : Nat} {l1 : Nat} {l2 : Nat} {l3 : Nat} {l4 : Int32} {l5 : Int32} {s0 : Int32} : am_run 269 1992 [some (.ref l0), some (.ref l1), some (.ref l2), some (.ref l3), some (.int l4), some (.int l5), none, none] [.int s0] w = (am_kf w l2 11).bind fun _ => (am_x 266 [.ref l2] w).bind fun r => bct r fun v w' => am_run 269 1998 [some (.ref l0), some (.ref l1), some (.ref l2), some (.ref l3), some (.int l4), some (.int l5), some (.int s0), none] (v.toList ++ []) w' := by
  refine (bu (ls'' := [some (.ref l0), some (.ref l1), some (.ref l2), some (.ref l3), some (.int l4), some (.int l5), some (.int s0), none]) (st' := []) bf269_1992 bf269_1994 rfl rfl).trans ?_
  refine (bu (ls'' := [some (.ref l0), some (.ref l1), some (.ref l2), some (.ref l3), some (.int l4), some (.int l5), some (.int s0), none]) (st' := [.ref l2]) bf269_1994 bf269_1995 rfl rfl).trans ?_
  exact bkV bf269_1995 bf269_1998 rfl (by decide +kernel) (Nat.le_of_ble_eq_true rfl) rfl (bhd rfl)
theorem bk269_2052 {w : am_Wd} {l0 : Nat} {l1 : Nat} {l2 : Nat} {l3 : Nat} {l4 : Int32} {l5 : Int32} {s0 : Int32} {s1 : Nat} : am_run 269 2052 [some (.ref l0), some (.ref l1), some (.ref l2), some (.ref l3), some (.int l4), some (.int l5), none, none] [.int s0, .ref s1] w = (am_ri 0 w l0 (l4 + (nI 2))).bind fun v => am_run 269 2058 [some (.ref l0), some (.ref l1), some (.ref l2), some (.ref l3), some (.int l4), some (.int l5), none, none] (.int v :: [.int s0, .ref s1]) w := by
  refine (bu (ls'' := [some (.ref l0), some (.ref l1), some (.ref l2), some (.ref l3), some (.int l4), some (.int l5), none, none]) (st' := [.ref l0, .int s0, .ref s1]) bf269_2052 bf269_2053 rfl rfl).trans ?_
  refine (bu (ls'' := [some (.ref l0), some (.ref l1), some (.ref l2), some (.ref l3), some (.int l4), some (.int l5), none, none]) (st' := [.int l4, .ref l0, .int s0, .ref s1]) bf269_2053 bf269_2055 rfl rfl).trans ?_
  refine (bu (ls'' := [some (.ref l0), some (.ref l1), some (.ref l2), some (.ref l3), some (.int l4), some (.int l5), none, none]) (st' := [.int (nI 2), .int l4, .ref l0, .int s0, .ref s1]) bf269_2055 bf269_2056 rfl rfl).trans ?_
  refine (bu (ls'' := [some (.ref l0), some (.ref l1), some (.ref l2), some (.ref l3), some (.int l4), some (.int l5), none, none]) (st' := [.int (l4 + (nI 2)), .ref l0, .int s0, .ref s1]) bf269_2056 bf269_2057 rfl rfl).trans ?_
  exact bh bf269_2057 bf269_2058 rfl (fun _ _ => am_ge_rf w) rfl
theorem bk269_2121 {w : am_Wd} {l0 : Nat} {l1 : Nat} {l2 : Nat} {l3 : Nat} {l4 : Int32} {l5 : Int32} {s0 : Int32} {s1 : Nat} : am_run 269 2121 [some (.ref l0), some (.ref l1), some (.ref l2), some (.ref l3), some (.int l4), some (.int l5), none, none] [.int s0, .ref s1] w = (am_ri 0 w l0 (l4 + (nI 2))).bind fun v => am_run 269 2127 [some (.ref l0), some (.ref l1), some (.ref l2), some (.ref l3), some (.int l4), some (.int l5), none, none] (.int v :: [.int s0, .ref s1]) w := by
  refine (bu (ls'' := [some (.ref l0), some (.ref l1), some (.ref l2), some (.ref l3), some (.int l4), some (.int l5), none, none]) (st' := [.ref l0, .int s0, .ref s1]) bf269_2121 bf269_2122 rfl rfl).trans ?_
  refine (bu (ls'' := [some (.ref l0), some (.ref l1), some (.ref l2), some (.ref l3), some (.int l4), some (.int l5), none, none]) (st' := [.int l4, .ref l0, .int s0, .ref s1]) bf269_2122 bf269_2124 rfl rfl).trans ?_
  refine (bu (ls'' := [some (.ref l0), some (.ref l1), some (.ref l2), some (.ref l3), some (.int l4), some (.int l5), none, none]) (st' := [.int (nI 2), .int l4, .ref l0, .int s0, .ref s1]) bf269_2124 bf269_2125 rfl rfl).trans ?_
  refine (bu (ls'' := [some (.ref l0), some (.ref l1), some (.ref l2), some (.ref l3), some (.int l4), some (.int l5), none, none]) (st' := [.int (l4 + (nI 2)), .ref l0, .int s0, .ref s1]) bf269_2125 bf269_2126 rfl rfl).trans ?_
  exact bh bf269_2126 bf269_2127 rfl (fun _ _ => am_ge_rf w) rfl
theorem bk269_201 {w : am_Wd} {l0 : Nat} {l1 : Nat} {l2 : Nat} {l3 : Nat} {l4 : Int32} {s0 : Int32} : am_run 269 201 [some (.ref l0), some (.ref l1), some (.ref l2), some (.ref l3), some (.int l4), none, none, none] [.int s0] w = (am_ri 0 w l0 (l4 + (nI 1))).bind fun v => am_run 269 210 [some (.ref l0), some (.ref l1), some (.ref l2), some (.ref l3), some (.int l4), some (.int s0), none, none] (.int v :: [.ref l2]) w := by
  refine (bu (ls'' := [some (.ref l0), some (.ref l1), some (.ref l2), some (.ref l3), some (.int l4), some (.int s0), none, none]) (st' := []) bf269_201 bf269_203 rfl rfl).trans ?_
  refine (bu (ls'' := [some (.ref l0), some (.ref l1), some (.ref l2), some (.ref l3), some (.int l4), some (.int s0), none, none]) (st' := [.ref l2]) bf269_203 bf269_204 rfl rfl).trans ?_
  refine (bu (ls'' := [some (.ref l0), some (.ref l1), some (.ref l2), some (.ref l3), some (.int l4), some (.int s0), none, none]) (st' := [.ref l0, .ref l2]) bf269_204 bf269_205 rfl rfl).trans ?_
  refine (bu (ls'' := [some (.ref l0), some (.ref l1), some (.ref l2), some (.ref l3), some (.int l4), some (.int s0), none, none]) (st' := [.int l4, .ref l0, .ref l2]) bf269_205 bf269_207 rfl rfl).trans ?_
  refine (bu (ls'' := [some (.ref l0), some (.ref l1), some (.ref l2), some (.ref l3), some (.int l4), some (.int s0), none, none]) (st' := [.int (nI 1), .int l4, .ref l0, .ref l2]) bf269_207 bf269_208 rfl rfl).trans ?_
  refine (bu (ls'' := [some (.ref l0), some (.ref l1), some (.ref l2), some (.ref l3), some (.int l4), some (.int s0), none, none]) (st' := [.int (l4 + (nI 1)), .ref l0, .ref l2]) bf269_208 bf269_209 rfl rfl).trans ?_
  exact bh bf269_209 bf269_210 rfl (fun _ _ => am_ge_rf w) rfl
theorem bk269_294 {w : am_Wd} {l0 : Nat} {l1 : Nat} {l2 : Nat} {l3 : Nat} {l4 : Int32} {l5 : Int32} {l6 : Int32} {s0 : Int32} : am_run 269 294 [some (.ref l0), some (.ref l1), some (.ref l2), some (.ref l3), some (.int l4), some (.int l5), some (.int l6), none] [.int s0] w = if s0 = l5 then am_run 269 301 [some (.ref l0), some (.ref l1), some (.ref l2), some (.ref l3), some (.int l4), some (.int l5), some (.int l6), none] [] w else am_run 269 299 [none, none, none, none, none, none, none, none] [] w := by
  refine (bu (ls'' := [some (.ref l0), some (.ref l1), some (.ref l2), some (.ref l3), some (.int l4), some (.int l5), some (.int l6), none]) (st' := [.int l5, .int s0]) bf269_294 bf269_296 rfl rfl).trans ?_
  exact bic bf269_296 rfl bf269_301 bf269_299 rfl rfl rfl
theorem bk269_349 {w : am_Wd} {l0 : Nat} {l1 : Nat} {l2 : Nat} {l3 : Nat} {l4 : Int32} {s0 : Int32} {s1 : Int32} {s2 : Int32} {s3 : Nat} : am_run 269 349 [some (.ref l0), some (.ref l1), some (.ref l2), some (.ref l3), some (.int l4), none, none, none] [.int s0, .int s1, .int s2, .ref s3] w = if s0 = nI 0 then am_run 269 356 [some (.ref l0), some (.ref l1), some (.ref l2), some (.ref l3), some (.int l4), none, none, none] [.int s1, .int s2, .ref s3] w else am_run 269 352 [some (.ref l0), some (.ref l1), some (.ref l2), some (.ref l3), some (.int l4), none, none, none] [.int s1, .int s2, .ref s3] w := by
  exact bifc bf269_349 rfl bf269_356 bf269_352 rfl rfl rfl
theorem bk269_467 {w : am_Wd} {l0 : Nat} {l1 : Nat} {l2 : Nat} {l3 : Nat} {l4 : Int32} {s0 : Int32} {s1 : Int32} {s2 : Int32} {s3 : Nat} : am_run 269 467 [some (.ref l0), some (.ref l1), some (.ref l2), some (.ref l3), some (.int l4), none, none, none] [.int s0, .int s1, .int s2, .ref s3] w = am_run 269 468 [some (.ref l0), some (.ref l1), some (.ref l2), some (.ref l3), some (.int l4), none, none, none] [.int (nI 0), .int s0, .int s1, .int s2, .ref s3] w := by
  refine (bu (ls'' := [some (.ref l0), some (.ref l1), some (.ref l2), some (.ref l3), some (.int l4), none, none, none]) (st' := [.int (nI 0), .int s0, .int s1, .int s2, .ref s3]) bf269_467 bf269_468 rfl rfl).trans ?_
  rfl
theorem bk269_463 {w : am_Wd} {l0 : Nat} {l1 : Nat} {l2 : Nat} {l3 : Nat} {l4 : Int32} {s0 : Int32} {s1 : Int32} {s2 : Int32} {s3 : Nat} : am_run 269 463 [some (.ref l0), some (.ref l1), some (.ref l2), some (.ref l3), some (.int l4), none, none, none] [.int s0, .int s1, .int s2, .ref s3] w = am_run 269 468 [some (.ref l0), some (.ref l1), some (.ref l2), some (.ref l3), some (.int l4), none, none, none] [.int (nI 1), .int s0, .int s1, .int s2, .ref s3] w := by
  refine (bu (ls'' := [some (.ref l0), some (.ref l1), some (.ref l2), some (.ref l3), some (.int l4), none, none, none]) (st' := [.int (nI 1), .int s0, .int s1, .int s2, .ref s3]) bf269_463 bf269_464 rfl rfl).trans ?_
  refine (bu (ls'' := [some (.ref l0), some (.ref l1), some (.ref l2), some (.ref l3), some (.int l4), none, none, none]) (st' := [.int (nI 1), .int s0, .int s1, .int s2, .ref s3]) bf269_464 bf269_468 rfl rfl).trans ?_
  rfl
theorem bk269_569 {w : am_Wd} {l0 : Nat} {l1 : Nat} {l2 : Nat} {l3 : Nat} {l4 : Int32} {s0 : Int32} : am_run 269 569 [some (.ref l0), some (.ref l1), some (.ref l2), some (.ref l3), some (.int l4), none, none, none] [.int s0] w = (am_ri 0 w l0 (l4 + (nI 1))).bind fun v => am_run 269 578 [some (.ref l0), some (.ref l1), some (.ref l2), some (.ref l3), some (.int l4), some (.int s0), none, none] (.int v :: [.ref l2]) w := by
  refine (bu (ls'' := [some (.ref l0), some (.ref l1), some (.ref l2), some (.ref l3), some (.int l4), some (.int s0), none, none]) (st' := []) bf269_569 bf269_571 rfl rfl).trans ?_
  refine (bu (ls'' := [some (.ref l0), some (.ref l1), some (.ref l2), some (.ref l3), some (.int l4), some (.int s0), none, none]) (st' := [.ref l2]) bf269_571 bf269_572 rfl rfl).trans ?_
  refine (bu (ls'' := [some (.ref l0), some (.ref l1), some (.ref l2), some (.ref l3), some (.int l4), some (.int s0), none, none]) (st' := [.ref l0, .ref l2]) bf269_572 bf269_573 rfl rfl).trans ?_
  refine (bu (ls'' := [some (.ref l0), some (.ref l1), some (.ref l2), some (.ref l3), some (.int l4), some (.int s0), none, none]) (st' := [.int l4, .ref l0, .ref l2]) bf269_573 bf269_575 rfl rfl).trans ?_
  refine (bu (ls'' := [some (.ref l0), some (.ref l1), some (.ref l2), some (.ref l3), some (.int l4), some (.int s0), none, none]) (st' := [.int (nI 1), .int l4, .ref l0, .ref l2]) bf269_575 bf269_576 rfl rfl).trans ?_
  refine (bu (ls'' := [some (.ref l0), some (.ref l1), some (.ref l2), some (.ref l3), some (.int l4), some (.int s0), none, none]) (st' := [.int (l4 + (nI 1)), .ref l0, .ref l2]) bf269_576 bf269_577 rfl rfl).trans ?_
  exact bh bf269_577 bf269_578 rfl (fun _ _ => am_ge_rf w) rfl
theorem bk269_663 {w : am_Wd} {l0 : Nat} {l1 : Nat} {l2 : Nat} {l3 : Nat} {l4 : Int32} {s0 : Int32} {s1 : Int32} {s2 : Int32} {s3 : Nat} : am_run 269 663 [some (.ref l0), some (.ref l1), some (.ref l2), some (.ref l3), some (.int l4), none, none, none] [.int s0, .int s1, .int s2, .ref s3] w = if s0 = nI 0 then am_run 269 670 [some (.ref l0), some (.ref l1), some (.ref l2), some (.ref l3), some (.int l4), none, none, none] [.int s1, .int s2, .ref s3] w else am_run 269 666 [some (.ref l0), some (.ref l1), some (.ref l2), some (.ref l3), some (.int l4), none, none, none] [.int s1, .int s2, .ref s3] w := by
  exact bifc bf269_663 rfl bf269_670 bf269_666 rfl rfl rfl
theorem bk269_774 {w : am_Wd} {l0 : Nat} {l1 : Nat} {l2 : Nat} {l3 : Nat} {l4 : Int32} {s0 : Int32} : am_run 269 774 [some (.ref l0), some (.ref l1), some (.ref l2), some (.ref l3), some (.int l4), none, none, none] [.int s0] w = (am_ri 0 w l0 (l4 + (nI 1))).bind fun v => am_run 269 783 [some (.ref l0), some (.ref l1), some (.ref l2), some (.ref l3), some (.int l4), some (.int s0), none, none] (.int v :: [.ref l2]) w := by
  refine (bu (ls'' := [some (.ref l0), some (.ref l1), some (.ref l2), some (.ref l3), some (.int l4), some (.int s0), none, none]) (st' := []) bf269_774 bf269_776 rfl rfl).trans ?_
  refine (bu (ls'' := [some (.ref l0), some (.ref l1), some (.ref l2), some (.ref l3), some (.int l4), some (.int s0), none, none]) (st' := [.ref l2]) bf269_776 bf269_777 rfl rfl).trans ?_
  refine (bu (ls'' := [some (.ref l0), some (.ref l1), some (.ref l2), some (.ref l3), some (.int l4), some (.int s0), none, none]) (st' := [.ref l0, .ref l2]) bf269_777 bf269_778 rfl rfl).trans ?_
  refine (bu (ls'' := [some (.ref l0), some (.ref l1), some (.ref l2), some (.ref l3), some (.int l4), some (.int s0), none, none]) (st' := [.int l4, .ref l0, .ref l2]) bf269_778 bf269_780 rfl rfl).trans ?_
  refine (bu (ls'' := [some (.ref l0), some (.ref l1), some (.ref l2), some (.ref l3), some (.int l4), some (.int s0), none, none]) (st' := [.int (nI 1), .int l4, .ref l0, .ref l2]) bf269_780 bf269_781 rfl rfl).trans ?_
  refine (bu (ls'' := [some (.ref l0), some (.ref l1), some (.ref l2), some (.ref l3), some (.int l4), some (.int s0), none, none]) (st' := [.int (l4 + (nI 1)), .ref l0, .ref l2]) bf269_781 bf269_782 rfl rfl).trans ?_
  exact bh bf269_782 bf269_783 rfl (fun _ _ => am_ge_rf w) rfl
theorem bk269_859 {w : am_Wd} {l0 : Nat} {l1 : Nat} {l2 : Nat} {l3 : Nat} {l4 : Int32} {s0 : Int32} : am_run 269 859 [some (.ref l0), some (.ref l1), some (.ref l2), some (.ref l3), some (.int l4), none, none, none] [.int s0] w = (am_ri 0 w l0 (l4 + (nI 1))).bind fun v => am_run 269 868 [some (.ref l0), some (.ref l1), some (.ref l2), some (.ref l3), some (.int l4), some (.int s0), none, none] (.int v :: [.ref l2]) w := by
  refine (bu (ls'' := [some (.ref l0), some (.ref l1), some (.ref l2), some (.ref l3), some (.int l4), some (.int s0), none, none]) (st' := []) bf269_859 bf269_861 rfl rfl).trans ?_
  refine (bu (ls'' := [some (.ref l0), some (.ref l1), some (.ref l2), some (.ref l3), some (.int l4), some (.int s0), none, none]) (st' := [.ref l2]) bf269_861 bf269_862 rfl rfl).trans ?_
  refine (bu (ls'' := [some (.ref l0), some (.ref l1), some (.ref l2), some (.ref l3), some (.int l4), some (.int s0), none, none]) (st' := [.ref l0, .ref l2]) bf269_862 bf269_863 rfl rfl).trans ?_
  refine (bu (ls'' := [some (.ref l0), some (.ref l1), some (.ref l2), some (.ref l3), some (.int l4), some (.int s0), none, none]) (st' := [.int l4, .ref l0, .ref l2]) bf269_863 bf269_865 rfl rfl).trans ?_
  refine (bu (ls'' := [some (.ref l0), some (.ref l1), some (.ref l2), some (.ref l3), some (.int l4), some (.int s0), none, none]) (st' := [.int (nI 1), .int l4, .ref l0, .ref l2]) bf269_865 bf269_866 rfl rfl).trans ?_
  refine (bu (ls'' := [some (.ref l0), some (.ref l1), some (.ref l2), some (.ref l3), some (.int l4), some (.int s0), none, none]) (st' := [.int (l4 + (nI 1)), .ref l0, .ref l2]) bf269_866 bf269_867 rfl rfl).trans ?_
  exact bh bf269_867 bf269_868 rfl (fun _ _ => am_ge_rf w) rfl
theorem bk269_951 {w : am_Wd} {l0 : Nat} {l1 : Nat} {l2 : Nat} {l3 : Nat} {l4 : Int32} {l5 : Int32} {s0 : Int32} {s1 : Int32} {s2 : Nat} : am_run 269 951 [some (.ref l0), some (.ref l1), some (.ref l2), some (.ref l3), some (.int l4), some (.int l5), none, none] [.int s0, .int s1, .ref s2] w = (am_kf w s2 11).bind fun _ => (am_x 178 [.ref s2, .int s1, .int s0] w).bind fun r => bct r fun v w' => am_run 269 954 [some (.ref l0), some (.ref l1), some (.ref l2), some (.ref l3), some (.int l4), some (.int l5), none, none] (v.toList ++ []) w' := by
  exact bkV bf269_951 bf269_954 rfl (by decide +kernel) (Nat.le_of_ble_eq_true rfl) rfl (bhd rfl)
theorem bk269_1017 {w : am_Wd} {l0 : Nat} {l1 : Nat} {l2 : Nat} {l3 : Nat} {l4 : Int32} {l5 : Int32} {l6 : Int32} {s0 : Int32} : am_run 269 1017 [some (.ref l0), some (.ref l1), some (.ref l2), some (.ref l3), some (.int l4), some (.int l5), some (.int l6), none] [.int s0] w = if s0 = l5 then am_run 269 1024 [some (.ref l0), some (.ref l1), some (.ref l2), some (.ref l3), some (.int l4), some (.int l5), some (.int l6), none] [] w else am_run 269 1022 [none, none, none, none, none, none, none, none] [] w := by
  refine (bu (ls'' := [some (.ref l0), some (.ref l1), some (.ref l2), some (.ref l3), some (.int l4), some (.int l5), some (.int l6), none]) (st' := [.int l5, .int s0]) bf269_1017 bf269_1019 rfl rfl).trans ?_
  exact bic bf269_1019 rfl bf269_1024 bf269_1022 rfl rfl rfl
theorem bk269_1077 {w : am_Wd} {l0 : Nat} {l1 : Nat} {l2 : Nat} {l3 : Nat} {l4 : Int32} {l5 : Int32} {s0 : Int32} {s1 : Int32} {s2 : Nat} : am_run 269 1077 [some (.ref l0), some (.ref l1), some (.ref l2), some (.ref l3), some (.int l4), some (.int l5), none, none] [.int s0, .int s1, .ref s2] w = (am_kf w s2 11).bind fun _ => (am_x 180 [.ref s2, .int s1, .int s0] w).bind fun r => bct r fun v w' => am_run 269 1080 [some (.ref l0), some (.ref l1), some (.ref l2), some (.ref l3), some (.int l4), some (.int l5), none, none] (v.toList ++ []) w' := by
  exact bkV bf269_1077 bf269_1080 rfl (by decide +kernel) (Nat.le_of_ble_eq_true rfl) rfl (bhd rfl)
theorem bk269_1143 {w : am_Wd} {l0 : Nat} {l1 : Nat} {l2 : Nat} {l3 : Nat} {l4 : Int32} {l5 : Int32} {l6 : Int32} {s0 : Int32} : am_run 269 1143 [some (.ref l0), some (.ref l1), some (.ref l2), some (.ref l3), some (.int l4), some (.int l5), some (.int l6), none] [.int s0] w = if s0 = l5 then am_run 269 1150 [some (.ref l0), some (.ref l1), some (.ref l2), some (.ref l3), some (.int l4), some (.int l5), some (.int l6), none] [] w else am_run 269 1148 [none, none, none, none, none, none, none, none] [] w := by
  refine (bu (ls'' := [some (.ref l0), some (.ref l1), some (.ref l2), some (.ref l3), some (.int l4), some (.int l5), some (.int l6), none]) (st' := [.int l5, .int s0]) bf269_1143 bf269_1145 rfl rfl).trans ?_
  exact bic bf269_1145 rfl bf269_1150 bf269_1148 rfl rfl rfl
theorem bk269_1216 {w : am_Wd} {l0 : Nat} {l1 : Nat} {l2 : Nat} {l3 : Nat} {l4 : Int32} {l5 : Int32} {s0 : Int32} {s1 : Nat} : am_run 269 1216 [some (.ref l0), some (.ref l1), some (.ref l2), some (.ref l3), some (.int l4), some (.int l5), none, none] [.int s0, .ref s1] w = (am_ri 0 w l0 (l4 + (nI 2))).bind fun v => am_run 269 1222 [some (.ref l0), some (.ref l1), some (.ref l2), some (.ref l3), some (.int l4), some (.int l5), none, none] (.int v :: [.int s0, .ref s1]) w := by
  refine (bu (ls'' := [some (.ref l0), some (.ref l1), some (.ref l2), some (.ref l3), some (.int l4), some (.int l5), none, none]) (st' := [.ref l0, .int s0, .ref s1]) bf269_1216 bf269_1217 rfl rfl).trans ?_
  refine (bu (ls'' := [some (.ref l0), some (.ref l1), some (.ref l2), some (.ref l3), some (.int l4), some (.int l5), none, none]) (st' := [.int l4, .ref l0, .int s0, .ref s1]) bf269_1217 bf269_1219 rfl rfl).trans ?_
  refine (bu (ls'' := [some (.ref l0), some (.ref l1), some (.ref l2), some (.ref l3), some (.int l4), some (.int l5), none, none]) (st' := [.int (nI 2), .int l4, .ref l0, .int s0, .ref s1]) bf269_1219 bf269_1220 rfl rfl).trans ?_
  refine (bu (ls'' := [some (.ref l0), some (.ref l1), some (.ref l2), some (.ref l3), some (.int l4), some (.int l5), none, none]) (st' := [.int (l4 + (nI 2)), .ref l0, .int s0, .ref s1]) bf269_1220 bf269_1221 rfl rfl).trans ?_
  exact bh bf269_1221 bf269_1222 rfl (fun _ _ => am_ge_rf w) rfl
theorem bk269_1297 {w : am_Wd} {l0 : Nat} {l1 : Nat} {l2 : Nat} {l3 : Nat} {l4 : Int32} {l5 : Int32} {s0 : Int32} {s1 : Int32} {s2 : Nat} : am_run 269 1297 [some (.ref l0), some (.ref l1), some (.ref l2), some (.ref l3), some (.int l4), some (.int l5), none, none] [.int s0, .int s1, .ref s2] w = (am_kf w s2 11).bind fun _ => (am_x 182 [.ref s2, .int s1, .int s0] w).bind fun r => bct r fun v w' => am_run 269 1300 [some (.ref l0), some (.ref l1), some (.ref l2), some (.ref l3), some (.int l4), some (.int l5), none, none] (v.toList ++ []) w' := by
  exact bkV bf269_1297 bf269_1300 rfl (by decide +kernel) (Nat.le_of_ble_eq_true rfl) rfl (bhd rfl)
theorem bk269_1363 {w : am_Wd} {l0 : Nat} {l1 : Nat} {l2 : Nat} {l3 : Nat} {l4 : Int32} {l5 : Int32} {l6 : Int32} {s0 : Int32} : am_run 269 1363 [some (.ref l0), some (.ref l1), some (.ref l2), some (.ref l3), some (.int l4), some (.int l5), some (.int l6), none] [.int s0] w = if s0 = l5 then am_run 269 1370 [some (.ref l0), some (.ref l1), some (.ref l2), some (.ref l3), some (.int l4), some (.int l5), some (.int l6), none] [] w else am_run 269 1368 [none, none, none, none, none, none, none, none] [] w := by
  refine (bu (ls'' := [some (.ref l0), some (.ref l1), some (.ref l2), some (.ref l3), some (.int l4), some (.int l5), some (.int l6), none]) (st' := [.int l5, .int s0]) bf269_1363 bf269_1365 rfl rfl).trans ?_
  exact bic bf269_1365 rfl bf269_1370 bf269_1368 rfl rfl rfl
theorem bk269_1420 {w : am_Wd} {l0 : Nat} {l1 : Nat} {l2 : Nat} {l3 : Nat} {l4 : Int32} {l5 : Int32} {l6 : Nat} {s0 : Int32} : am_run 269 1420 [some (.ref l0), some (.ref l1), some (.ref l2), some (.ref l3), some (.int l4), some (.int l5), some (.ref l6), none] [.int s0] w = if s0 = l5 then am_run 269 1427 [some (.ref l0), some (.ref l1), some (.ref l2), some (.ref l3), some (.int l4), some (.int l5), some (.ref l6), none] [] w else am_run 269 1425 [none, none, none, none, none, none, none, none] [] w := by
  refine (bu (ls'' := [some (.ref l0), some (.ref l1), some (.ref l2), some (.ref l3), some (.int l4), some (.int l5), some (.ref l6), none]) (st' := [.int l5, .int s0]) bf269_1420 bf269_1422 rfl rfl).trans ?_
  exact bic bf269_1422 rfl bf269_1427 bf269_1425 rfl rfl rfl
theorem bk269_1481 {w : am_Wd} {l0 : Nat} {l1 : Nat} {l2 : Nat} {l3 : Nat} {l4 : Int32} {l5 : Int32} {s0 : Int32} {s1 : Nat} : am_run 269 1481 [some (.ref l0), some (.ref l1), some (.ref l2), some (.ref l3), some (.int l4), some (.int l5), none, none] [.int s0, .ref s1] w = (am_ri 0 w l0 (l4 + (nI 2))).bind fun v => am_run 269 1487 [some (.ref l0), some (.ref l1), some (.ref l2), some (.ref l3), some (.int l4), some (.int l5), none, none] (.int v :: [.int s0, .ref s1]) w := by
  refine (bu (ls'' := [some (.ref l0), some (.ref l1), some (.ref l2), some (.ref l3), some (.int l4), some (.int l5), none, none]) (st' := [.ref l0, .int s0, .ref s1]) bf269_1481 bf269_1482 rfl rfl).trans ?_
  refine (bu (ls'' := [some (.ref l0), some (.ref l1), some (.ref l2), some (.ref l3), some (.int l4), some (.int l5), none, none]) (st' := [.int l4, .ref l0, .int s0, .ref s1]) bf269_1482 bf269_1484 rfl rfl).trans ?_
  refine (bu (ls'' := [some (.ref l0), some (.ref l1), some (.ref l2), some (.ref l3), some (.int l4), some (.int l5), none, none]) (st' := [.int (nI 2), .int l4, .ref l0, .int s0, .ref s1]) bf269_1484 bf269_1485 rfl rfl).trans ?_
  refine (bu (ls'' := [some (.ref l0), some (.ref l1), some (.ref l2), some (.ref l3), some (.int l4), some (.int l5), none, none]) (st' := [.int (l4 + (nI 2)), .ref l0, .int s0, .ref s1]) bf269_1485 bf269_1486 rfl rfl).trans ?_
  exact bh bf269_1486 bf269_1487 rfl (fun _ _ => am_ge_rf w) rfl
theorem bk269_1562 {w : am_Wd} {l0 : Nat} {l1 : Nat} {l2 : Nat} {l3 : Nat} {l4 : Int32} {l5 : Int32} {s0 : Int32} {s1 : Int32} {s2 : Nat} : am_run 269 1562 [some (.ref l0), some (.ref l1), some (.ref l2), some (.ref l3), some (.int l4), some (.int l5), none, none] [.int s0, .int s1, .ref s2] w = (am_kf w s2 11).bind fun _ => (am_x 183 [.ref s2, .int s1, .int s0] w).bind fun r => bct r fun v w' => am_run 269 1565 [some (.ref l0), some (.ref l1), some (.ref l2), some (.ref l3), some (.int l4), some (.int l5), none, none] (v.toList ++ []) w' := by
  exact bkV bf269_1562 bf269_1565 rfl (by decide +kernel) (Nat.le_of_ble_eq_true rfl) rfl (bhd rfl)
theorem bk269_1638 {w : am_Wd} {l0 : Nat} {l1 : Nat} {l2 : Nat} {l3 : Nat} {l4 : Int32} {l5 : Int32} {s0 : Int32} {s1 : Int32} {s2 : Nat} : am_run 269 1638 [some (.ref l0), some (.ref l1), some (.ref l2), some (.ref l3), some (.int l4), some (.int l5), none, none] [.int s0, .int s1, .ref s2] w = (am_kf w s2 11).bind fun _ => (am_x 184 [.ref s2, .int s1, .int s0] w).bind fun r => bct r fun v w' => am_run 269 1641 [some (.ref l0), some (.ref l1), some (.ref l2), some (.ref l3), some (.int l4), some (.int l5), none, none] (v.toList ++ []) w' := by
  exact bkV bf269_1638 bf269_1641 rfl (by decide +kernel) (Nat.le_of_ble_eq_true rfl) rfl (bhd rfl)
theorem bk269_1706 {w : am_Wd} {l0 : Nat} {l1 : Nat} {l2 : Nat} {l3 : Nat} {l4 : Int32} {l5 : Int32} {s0 : Int32} {s1 : Nat} : am_run 269 1706 [some (.ref l0), some (.ref l1), some (.ref l2), some (.ref l3), some (.int l4), some (.int l5), none, none] [.int s0, .ref s1] w = (am_ri 0 w l0 (l4 + (nI 2))).bind fun v => am_run 269 1712 [some (.ref l0), some (.ref l1), some (.ref l2), some (.ref l3), some (.int l4), some (.int l5), none, none] (.int v :: [.int s0, .ref s1]) w := by
  refine (bu (ls'' := [some (.ref l0), some (.ref l1), some (.ref l2), some (.ref l3), some (.int l4), some (.int l5), none, none]) (st' := [.ref l0, .int s0, .ref s1]) bf269_1706 bf269_1707 rfl rfl).trans ?_
  refine (bu (ls'' := [some (.ref l0), some (.ref l1), some (.ref l2), some (.ref l3), some (.int l4), some (.int l5), none, none]) (st' := [.int l4, .ref l0, .int s0, .ref s1]) bf269_1707 bf269_1709 rfl rfl).trans ?_
  refine (bu (ls'' := [some (.ref l0), some (.ref l1), some (.ref l2), some (.ref l3), some (.int l4), some (.int l5), none, none]) (st' := [.int (nI 2), .int l4, .ref l0, .int s0, .ref s1]) bf269_1709 bf269_1710 rfl rfl).trans ?_
  refine (bu (ls'' := [some (.ref l0), some (.ref l1), some (.ref l2), some (.ref l3), some (.int l4), some (.int l5), none, none]) (st' := [.int (l4 + (nI 2)), .ref l0, .int s0, .ref s1]) bf269_1710 bf269_1711 rfl rfl).trans ?_
  exact bh bf269_1711 bf269_1712 rfl (fun _ _ => am_ge_rf w) rfl
theorem bk269_1787 {w : am_Wd} {l0 : Nat} {l1 : Nat} {l2 : Nat} {l3 : Nat} {l4 : Int32} {l5 : Int32} {s0 : Int32} {s1 : Int32} {s2 : Nat} : am_run 269 1787 [some (.ref l0), some (.ref l1), some (.ref l2), some (.ref l3), some (.int l4), some (.int l5), none, none] [.int s0, .int s1, .ref s2] w = (am_kf w s2 11).bind fun _ => (am_x 264 [.ref s2, .int s1, .int s0] w).bind fun r => bct r fun v w' => am_run 269 1790 [some (.ref l0), some (.ref l1), some (.ref l2), some (.ref l3), some (.int l4), some (.int l5), none, none] (v.toList ++ []) w' := by
  exact bkV bf269_1787 bf269_1790 rfl (by decide +kernel) (Nat.le_of_ble_eq_true rfl) rfl (bhd rfl)
theorem bk269_1853 {w : am_Wd} {l0 : Nat} {l1 : Nat} {l2 : Nat} {l3 : Nat} {l4 : Int32} {l5 : Int32} {l6 : UInt64} {s0 : Int32} : am_run 269 1853 [some (.ref l0), some (.ref l1), some (.ref l2), some (.ref l3), some (.int l4), some (.int l5), some (.double l6), none] [.int s0] w = if s0 = l5 then am_run 269 1860 [some (.ref l0), some (.ref l1), some (.ref l2), some (.ref l3), some (.int l4), some (.int l5), some (.double l6), none] [] w else am_run 269 1858 [none, none, none, none, none, none, none, none] [] w := by
  refine (bu (ls'' := [some (.ref l0), some (.ref l1), some (.ref l2), some (.ref l3), some (.int l4), some (.int l5), some (.double l6), none]) (st' := [.int l5, .int s0]) bf269_1853 bf269_1855 rfl rfl).trans ?_
  exact bic bf269_1855 rfl bf269_1860 bf269_1858 rfl rfl rfl
theorem bk269_1932 {w : am_Wd} {l0 : Nat} {l1 : Nat} {l2 : Nat} {l3 : Nat} {l4 : Int32} {l5 : Int32} {s0 : Int32} {s1 : Int32} {s2 : Nat} : am_run 269 1932 [some (.ref l0), some (.ref l1), some (.ref l2), some (.ref l3), some (.int l4), some (.int l5), none, none] [.int s0, .int s1, .ref s2] w = (am_kf w s2 11).bind fun _ => (am_x 247 [.ref s2, .int s1, .int s0] w).bind fun r => bct r fun v w' => am_run 269 1935 [some (.ref l0), some (.ref l1), some (.ref l2), some (.ref l3), some (.int l4), some (.int l5), none, none] (v.toList ++ []) w' := by
  exact bkV bf269_1932 bf269_1935 rfl (by decide +kernel) (Nat.le_of_ble_eq_true rfl) rfl (bhd rfl)
theorem bk269_1998 {w : am_Wd} {l0 : Nat} {l1 : Nat} {l2 : Nat} {l3 : Nat} {l4 : Int32} {l5 : Int32} {l6 : Int32} {s0 : Int32} : am_run 269 1998 [some (.ref l0), some (.ref l1), some (.ref l2), some (.ref l3), some (.int l4), some (.int l5), some (.int l6), none] [.int s0] w = if s0 = l5 then am_run 269 2005 [some (.ref l0), some (.ref l1), some (.ref l2), some (.ref l3), some (.int l4), some (.int l5), some (.int l6), none] [] w else am_run 269 2003 [none, none, none, none, none, none, none, none] [] w := by
  refine (bu (ls'' := [some (.ref l0), some (.ref l1), some (.ref l2), some (.ref l3), some (.int l4), some (.int l5), some (.int l6), none]) (st' := [.int l5, .int s0]) bf269_1998 bf269_2000 rfl rfl).trans ?_
  exact bic bf269_2000 rfl bf269_2005 bf269_2003 rfl rfl rfl
theorem bk269_2058 {w : am_Wd} {l0 : Nat} {l1 : Nat} {l2 : Nat} {l3 : Nat} {l4 : Int32} {l5 : Int32} {s0 : Int32} {s1 : Int32} {s2 : Nat} : am_run 269 2058 [some (.ref l0), some (.ref l1), some (.ref l2), some (.ref l3), some (.int l4), some (.int l5), none, none] [.int s0, .int s1, .ref s2] w = (am_kf w s2 11).bind fun _ => (am_x 231 [.ref s2, .int s1, .int s0] w).bind fun r => bct r fun v w' => am_run 269 2061 [some (.ref l0), some (.ref l1), some (.ref l2), some (.ref l3), some (.int l4), some (.int l5), none, none] (v.toList ++ []) w' := by
  exact bkV bf269_2058 bf269_2061 rfl (by decide +kernel) (Nat.le_of_ble_eq_true rfl) rfl (bhd rfl)
theorem bk269_2127 {w : am_Wd} {l0 : Nat} {l1 : Nat} {l2 : Nat} {l3 : Nat} {l4 : Int32} {l5 : Int32} {s0 : Int32} {s1 : Int32} {s2 : Nat} : am_run 269 2127 [some (.ref l0), some (.ref l1), some (.ref l2), some (.ref l3), some (.int l4), some (.int l5), none, none] [.int s0, .int s1, .ref s2] w = (am_kf w s2 11).bind fun _ => (am_x 232 [.ref s2, .int s1, .int s0] w).bind fun r => bct r fun v w' => am_run 269 2130 [some (.ref l0), some (.ref l1), some (.ref l2), some (.ref l3), some (.int l4), some (.int l5), none, none] (v.toList ++ []) w' := by
  exact bkV bf269_2127 bf269_2130 rfl (by decide +kernel) (Nat.le_of_ble_eq_true rfl) rfl (bhd rfl)
theorem bk269_210 {w : am_Wd} {l0 : Nat} {l1 : Nat} {l2 : Nat} {l3 : Nat} {l4 : Int32} {l5 : Int32} {s0 : Int32} {s1 : Nat} : am_run 269 210 [some (.ref l0), some (.ref l1), some (.ref l2), some (.ref l3), some (.int l4), some (.int l5), none, none] [.int s0, .ref s1] w = (am_ri 0 w l0 (l4 + (nI 2))).bind fun v => am_run 269 216 [some (.ref l0), some (.ref l1), some (.ref l2), some (.ref l3), some (.int l4), some (.int l5), none, none] (.int v :: [.int s0, .ref s1]) w := by
  refine (bu (ls'' := [some (.ref l0), some (.ref l1), some (.ref l2), some (.ref l3), some (.int l4), some (.int l5), none, none]) (st' := [.ref l0, .int s0, .ref s1]) bf269_210 bf269_211 rfl rfl).trans ?_
  refine (bu (ls'' := [some (.ref l0), some (.ref l1), some (.ref l2), some (.ref l3), some (.int l4), some (.int l5), none, none]) (st' := [.int l4, .ref l0, .int s0, .ref s1]) bf269_211 bf269_213 rfl rfl).trans ?_
  refine (bu (ls'' := [some (.ref l0), some (.ref l1), some (.ref l2), some (.ref l3), some (.int l4), some (.int l5), none, none]) (st' := [.int (nI 2), .int l4, .ref l0, .int s0, .ref s1]) bf269_213 bf269_214 rfl rfl).trans ?_
  refine (bu (ls'' := [some (.ref l0), some (.ref l1), some (.ref l2), some (.ref l3), some (.int l4), some (.int l5), none, none]) (st' := [.int (l4 + (nI 2)), .ref l0, .int s0, .ref s1]) bf269_214 bf269_215 rfl rfl).trans ?_
  exact bh bf269_215 bf269_216 rfl (fun _ _ => am_ge_rf w) rfl
theorem bk269_301 {w : am_Wd} {l0 : Nat} {l1 : Nat} {l2 : Nat} {l3 : Nat} {l4 : Int32} {l5 : Int32} {l6 : Int32} : am_run 269 301 [some (.ref l0), some (.ref l1), some (.ref l2), some (.ref l3), some (.int l4), some (.int l5), some (.int l6), none] [] w = if ¬ l5 = nI 0 then am_run 269 319 [some (.ref l0), some (.ref l1), some (.ref l2), some (.ref l3), some (.int l4), none, none, none] [] w else am_run 269 306 [some (.ref l0), some (.ref l1), some (.ref l2), some (.ref l3), some (.int l4), none, some (.int l6), none] [] w := by
  refine (bu (ls'' := [some (.ref l0), some (.ref l1), some (.ref l2), some (.ref l3), some (.int l4), none, some (.int l6), none]) (st' := [.int l5]) bf269_301 bf269_303 rfl rfl).trans ?_
  exact bifc bf269_303 rfl bf269_319 bf269_306 rfl rfl rfl
theorem bk269_299 {w : am_Wd}  : am_run 269 299 [none, none, none, none, none, none, none, none] [] w = some (.inl (some (.int (nI 0))), w) := by
  refine (bu (ls'' := [none, none, none, none, none, none, none, none]) (st' := [.int (nI 0)]) bf269_299 bf269_300 rfl rfl).trans ?_
  exact am_e2 bf269_300 rfl (am_ge_rf w)
theorem bk269_356 {w : am_Wd} {l0 : Nat} {l1 : Nat} {l2 : Nat} {l3 : Nat} {l4 : Int32} {s0 : Int32} {s1 : Int32} {s2 : Nat} : am_run 269 356 [some (.ref l0), some (.ref l1), some (.ref l2), some (.ref l3), some (.int l4), none, none, none] [.int s0, .int s1, .ref s2] w = am_run 269 357 [some (.ref l0), some (.ref l1), some (.ref l2), some (.ref l3), some (.int l4), none, none, none] [.int (nI 0), .int s0, .int s1, .ref s2] w := by
  refine (bu (ls'' := [some (.ref l0), some (.ref l1), some (.ref l2), some (.ref l3), some (.int l4), none, none, none]) (st' := [.int (nI 0), .int s0, .int s1, .ref s2]) bf269_356 bf269_357 rfl rfl).trans ?_
  rfl
theorem bk269_352 {w : am_Wd} {l0 : Nat} {l1 : Nat} {l2 : Nat} {l3 : Nat} {l4 : Int32} {s0 : Int32} {s1 : Int32} {s2 : Nat} : am_run 269 352 [some (.ref l0), some (.ref l1), some (.ref l2), some (.ref l3), some (.int l4), none, none, none] [.int s0, .int s1, .ref s2] w = am_run 269 357 [some (.ref l0), some (.ref l1), some (.ref l2), some (.ref l3), some (.int l4), none, none, none] [.int (nI 1), .int s0, .int s1, .ref s2] w := by
  refine (bu (ls'' := [some (.ref l0), some (.ref l1), some (.ref l2), some (.ref l3), some (.int l4), none, none, none]) (st' := [.int (nI 1), .int s0, .int s1, .ref s2]) bf269_352 bf269_353 rfl rfl).trans ?_
  refine (bu (ls'' := [some (.ref l0), some (.ref l1), some (.ref l2), some (.ref l3), some (.int l4), none, none, none]) (st' := [.int (nI 1), .int s0, .int s1, .ref s2]) bf269_353 bf269_357 rfl rfl).trans ?_
  rfl
theorem bk269_468 {w : am_Wd} {l0 : Nat} {l1 : Nat} {l2 : Nat} {l3 : Nat} {l4 : Int32} {s0 : Int32} {s1 : Int32} {s2 : Int32} {s3 : Int32} {s4 : Nat} : am_run 269 468 [some (.ref l0), some (.ref l1), some (.ref l2), some (.ref l3), some (.int l4), none, none, none] [.int s0, .int s1, .int s2, .int s3, .ref s4] w = (am_x 217 [.ref s4, .int s3, .int s2, .int s1, .int s0, .ref l3] w).bind fun r => bct r fun v w' => am_run 269 472 [some (.ref l0), some (.ref l1), some (.ref l2), some (.ref l3), some (.int l4), none, none, none] (v.toList ++ []) w' := by
  refine (bu (ls'' := [some (.ref l0), some (.ref l1), some (.ref l2), some (.ref l3), some (.int l4), none, none, none]) (st' := [.ref l3, .int s0, .int s1, .int s2, .int s3, .ref s4]) bf269_468 bf269_469 rfl rfl).trans ?_
  exact bkS bf269_469 bf269_472 rfl (by decide +kernel) (Nat.le_of_ble_eq_true rfl) rfl (bhd rfl)
theorem bk269_578 {w : am_Wd} {l0 : Nat} {l1 : Nat} {l2 : Nat} {l3 : Nat} {l4 : Int32} {l5 : Int32} {s0 : Int32} {s1 : Nat} : am_run 269 578 [some (.ref l0), some (.ref l1), some (.ref l2), some (.ref l3), some (.int l4), some (.int l5), none, none] [.int s0, .ref s1] w = (am_ri 0 w l0 (l4 + (nI 2))).bind fun v => am_run 269 584 [some (.ref l0), some (.ref l1), some (.ref l2), some (.ref l3), some (.int l4), some (.int l5), none, none] (.int v :: [.int s0, .ref s1]) w := by
  refine (bu (ls'' := [some (.ref l0), some (.ref l1), some (.ref l2), some (.ref l3), some (.int l4), some (.int l5), none, none]) (st' := [.ref l0, .int s0, .ref s1]) bf269_578 bf269_579 rfl rfl).trans ?_
  refine (bu (ls'' := [some (.ref l0), some (.ref l1), some (.ref l2), some (.ref l3), some (.int l4), some (.int l5), none, none]) (st' := [.int l4, .ref l0, .int s0, .ref s1]) bf269_579 bf269_581 rfl rfl).trans ?_
  refine (bu (ls'' := [some (.ref l0), some (.ref l1), some (.ref l2), some (.ref l3), some (.int l4), some (.int l5), none, none]) (st' := [.int (nI 2), .int l4, .ref l0, .int s0, .ref s1]) bf269_581 bf269_582 rfl rfl).trans ?_
  refine (bu (ls'' := [some (.ref l0), some (.ref l1), some (.ref l2), some (.ref l3), some (.int l4), some (.int l5), none, none]) (st' := [.int (l4 + (nI 2)), .ref l0, .int s0, .ref s1]) bf269_582 bf269_583 rfl rfl).trans ?_
  exact bh bf269_583 bf269_584 rfl (fun _ _ => am_ge_rf w) rfl
theorem bk269_670 {w : am_Wd} {l0 : Nat} {l1 : Nat} {l2 : Nat} {l3 : Nat} {l4 : Int32} {s0 : Int32} {s1 : Int32} {s2 : Nat} : am_run 269 670 [some (.ref l0), some (.ref l1), some (.ref l2), some (.ref l3), some (.int l4), none, none, none] [.int s0, .int s1, .ref s2] w = am_run 269 671 [some (.ref l0), some (.ref l1), some (.ref l2), some (.ref l3), some (.int l4), none, none, none] [.int (nI 0), .int s0, .int s1, .ref s2] w := by
  refine (bu (ls'' := [some (.ref l0), some (.ref l1), some (.ref l2), some (.ref l3), some (.int l4), none, none, none]) (st' := [.int (nI 0), .int s0, .int s1, .ref s2]) bf269_670 bf269_671 rfl rfl).trans ?_
  rfl
theorem bk269_666 {w : am_Wd} {l0 : Nat} {l1 : Nat} {l2 : Nat} {l3 : Nat} {l4 : Int32} {s0 : Int32} {s1 : Int32} {s2 : Nat} : am_run 269 666 [some (.ref l0), some (.ref l1), some (.ref l2), some (.ref l3), some (.int l4), none, none, none] [.int s0, .int s1, .ref s2] w = am_run 269 671 [some (.ref l0), some (.ref l1), some (.ref l2), some (.ref l3), some (.int l4), none, none, none] [.int (nI 1), .int s0, .int s1, .ref s2] w := by
  refine (bu (ls'' := [some (.ref l0), some (.ref l1), some (.ref l2), some (.ref l3), some (.int l4), none, none, none]) (st' := [.int (nI 1), .int s0, .int s1, .ref s2]) bf269_666 bf269_667 rfl rfl).trans ?_
  refine (bu (ls'' := [some (.ref l0), some (.ref l1), some (.ref l2), some (.ref l3), some (.int l4), none, none, none]) (st' := [.int (nI 1), .int s0, .int s1, .ref s2]) bf269_667 bf269_671 rfl rfl).trans ?_
  rfl
theorem bk269_783 {w : am_Wd} {l0 : Nat} {l1 : Nat} {l2 : Nat} {l3 : Nat} {l4 : Int32} {l5 : Int32} {s0 : Int32} {s1 : Nat} : am_run 269 783 [some (.ref l0), some (.ref l1), some (.ref l2), some (.ref l3), some (.int l4), some (.int l5), none, none] [.int s0, .ref s1] w = (am_ri 0 w l0 (l4 + (nI 2))).bind fun v => am_run 269 789 [some (.ref l0), some (.ref l1), some (.ref l2), some (.ref l3), some (.int l4), some (.int l5), none, none] (.int v :: [.int s0, .ref s1]) w := by
  refine (bu (ls'' := [some (.ref l0), some (.ref l1), some (.ref l2), some (.ref l3), some (.int l4), some (.int l5), none, none]) (st' := [.ref l0, .int s0, .ref s1]) bf269_783 bf269_784 rfl rfl).trans ?_
  refine (bu (ls'' := [some (.ref l0), some (.ref l1), some (.ref l2), some (.ref l3), some (.int l4), some (.int l5), none, none]) (st' := [.int l4, .ref l0, .int s0, .ref s1]) bf269_784 bf269_786 rfl rfl).trans ?_
  refine (bu (ls'' := [some (.ref l0), some (.ref l1), some (.ref l2), some (.ref l3), some (.int l4), some (.int l5), none, none]) (st' := [.int (nI 2), .int l4, .ref l0, .int s0, .ref s1]) bf269_786 bf269_787 rfl rfl).trans ?_
  refine (bu (ls'' := [some (.ref l0), some (.ref l1), some (.ref l2), some (.ref l3), some (.int l4), some (.int l5), none, none]) (st' := [.int (l4 + (nI 2)), .ref l0, .int s0, .ref s1]) bf269_787 bf269_788 rfl rfl).trans ?_
  exact bh bf269_788 bf269_789 rfl (fun _ _ => am_ge_rf w) rfl
theorem bk269_868 {w : am_Wd} {l0 : Nat} {l1 : Nat} {l2 : Nat} {l3 : Nat} {l4 : Int32} {l5 : Int32} {s0 : Int32} {s1 : Nat} : am_run 269 868 [some (.ref l0), some (.ref l1), some (.ref l2), some (.ref l3), some (.int l4), some (.int l5), none, none] [.int s0, .ref s1] w = (am_ri 0 w l0 (l4 + (nI 2))).bind fun v => am_run 269 874 [some (.ref l0), some (.ref l1), some (.ref l2), some (.ref l3), some (.int l4), some (.int l5), none, none] (.int v :: [.int s0, .ref s1]) w := by
  refine (bu (ls'' := [some (.ref l0), some (.ref l1), some (.ref l2), some (.ref l3), some (.int l4), some (.int l5), none, none]) (st' := [.ref l0, .int s0, .ref s1]) bf269_868 bf269_869 rfl rfl).trans ?_
  refine (bu (ls'' := [some (.ref l0), some (.ref l1), some (.ref l2), some (.ref l3), some (.int l4), some (.int l5), none, none]) (st' := [.int l4, .ref l0, .int s0, .ref s1]) bf269_869 bf269_871 rfl rfl).trans ?_
  refine (bu (ls'' := [some (.ref l0), some (.ref l1), some (.ref l2), some (.ref l3), some (.int l4), some (.int l5), none, none]) (st' := [.int (nI 2), .int l4, .ref l0, .int s0, .ref s1]) bf269_871 bf269_872 rfl rfl).trans ?_
  refine (bu (ls'' := [some (.ref l0), some (.ref l1), some (.ref l2), some (.ref l3), some (.int l4), some (.int l5), none, none]) (st' := [.int (l4 + (nI 2)), .ref l0, .int s0, .ref s1]) bf269_872 bf269_873 rfl rfl).trans ?_
  exact bh bf269_873 bf269_874 rfl (fun _ _ => am_ge_rf w) rfl
theorem bk269_954 {w : am_Wd} {l0 : Nat} {l1 : Nat} {l2 : Nat} {l3 : Nat} {l4 : Int32} {l5 : Int32} {s0 : Int32} : am_run 269 954 [some (.ref l0), some (.ref l1), some (.ref l2), some (.ref l3), some (.int l4), some (.int l5), none, none] [.int s0] w = (am_kf w l2 11).bind fun _ => (am_x 266 [.ref l2] w).bind fun r => bct r fun v w' => am_run 269 960 [some (.ref l0), some (.ref l1), some (.ref l2), some (.ref l3), some (.int l4), some (.int l5), some (.int s0), none] (v.toList ++ []) w' := by
  refine (bu (ls'' := [some (.ref l0), some (.ref l1), some (.ref l2), some (.ref l3), some (.int l4), some (.int l5), some (.int s0), none]) (st' := []) bf269_954 bf269_956 rfl rfl).trans ?_
  refine (bu (ls'' := [some (.ref l0), some (.ref l1), some (.ref l2), some (.ref l3), some (.int l4), some (.int l5), some (.int s0), none]) (st' := [.ref l2]) bf269_956 bf269_957 rfl rfl).trans ?_
  exact bkV bf269_957 bf269_960 rfl (by decide +kernel) (Nat.le_of_ble_eq_true rfl) rfl (bhd rfl)
theorem bk269_1024 {w : am_Wd} {l0 : Nat} {l1 : Nat} {l2 : Nat} {l3 : Nat} {l4 : Int32} {l5 : Int32} {l6 : Int32} : am_run 269 1024 [some (.ref l0), some (.ref l1), some (.ref l2), some (.ref l3), some (.int l4), some (.int l5), some (.int l6), none] [] w = if ¬ l5 = nI 0 then am_run 269 1042 [some (.ref l0), some (.ref l1), some (.ref l2), some (.ref l3), some (.int l4), none, none, none] [] w else am_run 269 1029 [some (.ref l0), some (.ref l1), some (.ref l2), some (.ref l3), some (.int l4), none, some (.int l6), none] [] w := by
  refine (bu (ls'' := [some (.ref l0), some (.ref l1), some (.ref l2), some (.ref l3), some (.int l4), none, some (.int l6), none]) (st' := [.int l5]) bf269_1024 bf269_1026 rfl rfl).trans ?_
  exact bifc bf269_1026 rfl bf269_1042 bf269_1029 rfl rfl rfl
theorem bk269_1022 {w : am_Wd}  : am_run 269 1022 [none, none, none, none, none, none, none, none] [] w = some (.inl (some (.int (nI 0))), w) := by
  refine (bu (ls'' := [none, none, none, none, none, none, none, none]) (st' := [.int (nI 0)]) bf269_1022 bf269_1023 rfl rfl).trans ?_
  exact am_e2 bf269_1023 rfl (am_ge_rf w)
theorem bk269_1080 {w : am_Wd} {l0 : Nat} {l1 : Nat} {l2 : Nat} {l3 : Nat} {l4 : Int32} {l5 : Int32} {s0 : Int32} : am_run 269 1080 [some (.ref l0), some (.ref l1), some (.ref l2), some (.ref l3), some (.int l4), some (.int l5), none, none] [.int s0] w = (am_kf w l2 11).bind fun _ => (am_x 266 [.ref l2] w).bind fun r => bct r fun v w' => am_run 269 1086 [some (.ref l0), some (.ref l1), some (.ref l2), some (.ref l3), some (.int l4), some (.int l5), some (.int s0), none] (v.toList ++ []) w' := by
  refine (bu (ls'' := [some (.ref l0), some (.ref l1), some (.ref l2), some (.ref l3), some (.int l4), some (.int l5), some (.int s0), none]) (st' := []) bf269_1080 bf269_1082 rfl rfl).trans ?_
  refine (bu (ls'' := [some (.ref l0), some (.ref l1), some (.ref l2), some (.ref l3), some (.int l4), some (.int l5), some (.int s0), none]) (st' := [.ref l2]) bf269_1082 bf269_1083 rfl rfl).trans ?_
  exact bkV bf269_1083 bf269_1086 rfl (by decide +kernel) (Nat.le_of_ble_eq_true rfl) rfl (bhd rfl)
theorem bk269_1150 {w : am_Wd} {l0 : Nat} {l1 : Nat} {l2 : Nat} {l3 : Nat} {l4 : Int32} {l5 : Int32} {l6 : Int32} : am_run 269 1150 [some (.ref l0), some (.ref l1), some (.ref l2), some (.ref l3), some (.int l4), some (.int l5), some (.int l6), none] [] w = if ¬ l5 = nI 0 then am_run 269 1168 [some (.ref l0), some (.ref l1), some (.ref l2), some (.ref l3), some (.int l4), none, none, none] [] w else am_run 269 1155 [some (.ref l0), some (.ref l1), some (.ref l2), some (.ref l3), some (.int l4), none, some (.int l6), none] [] w := by
  refine (bu (ls'' := [some (.ref l0), some (.ref l1), some (.ref l2), some (.ref l3), some (.int l4), none, some (.int l6), none]) (st' := [.int l5]) bf269_1150 bf269_1152 rfl rfl).trans ?_
  exact bifc bf269_1152 rfl bf269_1168 bf269_1155 rfl rfl rfl
theorem bk269_1148 {w : am_Wd}  : am_run 269 1148 [none, none, none, none, none, none, none, none] [] w = some (.inl (some (.int (nI 0))), w) := by
  refine (bu (ls'' := [none, none, none, none, none, none, none, none]) (st' := [.int (nI 0)]) bf269_1148 bf269_1149 rfl rfl).trans ?_
  exact am_e2 bf269_1149 rfl (am_ge_rf w)
theorem bk269_1222 {w : am_Wd} {l0 : Nat} {l1 : Nat} {l2 : Nat} {l3 : Nat} {l4 : Int32} {l5 : Int32} {s0 : Int32} {s1 : Int32} {s2 : Nat} : am_run 269 1222 [some (.ref l0), some (.ref l1), some (.ref l2), some (.ref l3), some (.int l4), some (.int l5), none, none] [.int s0, .int s1, .ref s2] w = (am_ri 0 w l0 (l4 + (nI 3))).bind fun v => am_run 269 1228 [some (.ref l0), some (.ref l1), some (.ref l2), some (.ref l3), some (.int l4), some (.int l5), none, none] (.int v :: [.int s0, .int s1, .ref s2]) w := by
  refine (bu (ls'' := [some (.ref l0), some (.ref l1), some (.ref l2), some (.ref l3), some (.int l4), some (.int l5), none, none]) (st' := [.ref l0, .int s0, .int s1, .ref s2]) bf269_1222 bf269_1223 rfl rfl).trans ?_
  refine (bu (ls'' := [some (.ref l0), some (.ref l1), some (.ref l2), some (.ref l3), some (.int l4), some (.int l5), none, none]) (st' := [.int l4, .ref l0, .int s0, .int s1, .ref s2]) bf269_1223 bf269_1225 rfl rfl).trans ?_
  refine (bu (ls'' := [some (.ref l0), some (.ref l1), some (.ref l2), some (.ref l3), some (.int l4), some (.int l5), none, none]) (st' := [.int (nI 3), .int l4, .ref l0, .int s0, .int s1, .ref s2]) bf269_1225 bf269_1226 rfl rfl).trans ?_
  refine (bu (ls'' := [some (.ref l0), some (.ref l1), some (.ref l2), some (.ref l3), some (.int l4), some (.int l5), none, none]) (st' := [.int (l4 + (nI 3)), .ref l0, .int s0, .int s1, .ref s2]) bf269_1226 bf269_1227 rfl rfl).trans ?_
  exact bh bf269_1227 bf269_1228 rfl (fun _ _ => am_ge_rf w) rfl
theorem bk269_1300 {w : am_Wd} {l0 : Nat} {l1 : Nat} {l2 : Nat} {l3 : Nat} {l4 : Int32} {l5 : Int32} {s0 : Int32} : am_run 269 1300 [some (.ref l0), some (.ref l1), some (.ref l2), some (.ref l3), some (.int l4), some (.int l5), none, none] [.int s0] w = (am_kf w l2 11).bind fun _ => (am_x 266 [.ref l2] w).bind fun r => bct r fun v w' => am_run 269 1306 [some (.ref l0), some (.ref l1), some (.ref l2), some (.ref l3), some (.int l4), some (.int l5), some (.int s0), none] (v.toList ++ []) w' := by
  refine (bu (ls'' := [some (.ref l0), some (.ref l1), some (.ref l2), some (.ref l3), some (.int l4), some (.int l5), some (.int s0), none]) (st' := []) bf269_1300 bf269_1302 rfl rfl).trans ?_
  refine (bu (ls'' := [some (.ref l0), some (.ref l1), some (.ref l2), some (.ref l3), some (.int l4), some (.int l5), some (.int s0), none]) (st' := [.ref l2]) bf269_1302 bf269_1303 rfl rfl).trans ?_
  exact bkV bf269_1303 bf269_1306 rfl (by decide +kernel) (Nat.le_of_ble_eq_true rfl) rfl (bhd rfl)
theorem bk269_1370 {w : am_Wd} {l0 : Nat} {l1 : Nat} {l2 : Nat} {l3 : Nat} {l4 : Int32} {l5 : Int32} {l6 : Int32} : am_run 269 1370 [some (.ref l0), some (.ref l1), some (.ref l2), some (.ref l3), some (.int l4), some (.int l5), some (.int l6), none] [] w = if ¬ l5 = nI 0 then am_run 269 1388 [some (.ref l0), some (.ref l1), some (.ref l2), some (.ref l3), some (.int l4), none, none, none] [] w else am_run 269 1375 [some (.ref l0), some (.ref l1), some (.ref l2), some (.ref l3), some (.int l4), none, some (.int l6), none] [] w := by
  refine (bu (ls'' := [some (.ref l0), some (.ref l1), some (.ref l2), some (.ref l3), some (.int l4), none, some (.int l6), none]) (st' := [.int l5]) bf269_1370 bf269_1372 rfl rfl).trans ?_
  exact bifc bf269_1372 rfl bf269_1388 bf269_1375 rfl rfl rfl
theorem bk269_1368 {w : am_Wd}  : am_run 269 1368 [none, none, none, none, none, none, none, none] [] w = some (.inl (some (.int (nI 0))), w) := by
  refine (bu (ls'' := [none, none, none, none, none, none, none, none]) (st' := [.int (nI 0)]) bf269_1368 bf269_1369 rfl rfl).trans ?_
  exact am_e2 bf269_1369 rfl (am_ge_rf w)
theorem bk269_1427 {w : am_Wd} {l0 : Nat} {l1 : Nat} {l2 : Nat} {l3 : Nat} {l4 : Int32} {l5 : Int32} {l6 : Nat} : am_run 269 1427 [some (.ref l0), some (.ref l1), some (.ref l2), some (.ref l3), some (.int l4), some (.int l5), some (.ref l6), none] [] w = if ¬ l5 = nI 0 then am_run 269 1446 [some (.ref l0), some (.ref l1), some (.ref l2), some (.ref l3), some (.int l4), none, none, none] [] w else am_run 269 1432 [some (.ref l0), some (.ref l1), some (.ref l2), some (.ref l3), some (.int l4), none, some (.ref l6), none] [] w := by
  refine (bu (ls'' := [some (.ref l0), some (.ref l1), some (.ref l2), some (.ref l3), some (.int l4), none, some (.ref l6), none]) (st' := [.int l5]) bf269_1427 bf269_1429 rfl rfl).trans ?_
  exact bifc bf269_1429 rfl bf269_1446 bf269_1432 rfl rfl rfl
theorem bk269_1425 {w : am_Wd}  : am_run 269 1425 [none, none, none, none, none, none, none, none] [] w = some (.inl (some (.int (nI 0))), w) := by
  refine (bu (ls'' := [none, none, none, none, none, none, none, none]) (st' := [.int (nI 0)]) bf269_1425 bf269_1426 rfl rfl).trans ?_
  exact am_e2 bf269_1426 rfl (am_ge_rf w)
theorem bk269_1487 {w : am_Wd} {l0 : Nat} {l1 : Nat} {l2 : Nat} {l3 : Nat} {l4 : Int32} {l5 : Int32} {s0 : Int32} {s1 : Int32} {s2 : Nat} : am_run 269 1487 [some (.ref l0), some (.ref l1), some (.ref l2), some (.ref l3), some (.int l4), some (.int l5), none, none] [.int s0, .int s1, .ref s2] w = (am_ri 0 w l0 (l4 + (nI 3))).bind fun v => am_run 269 1493 [some (.ref l0), some (.ref l1), some (.ref l2), some (.ref l3), some (.int l4), some (.int l5), none, none] (.int v :: [.int s0, .int s1, .ref s2]) w := by
  refine (bu (ls'' := [some (.ref l0), some (.ref l1), some (.ref l2), some (.ref l3), some (.int l4), some (.int l5), none, none]) (st' := [.ref l0, .int s0, .int s1, .ref s2]) bf269_1487 bf269_1488 rfl rfl).trans ?_
  refine (bu (ls'' := [some (.ref l0), some (.ref l1), some (.ref l2), some (.ref l3), some (.int l4), some (.int l5), none, none]) (st' := [.int l4, .ref l0, .int s0, .int s1, .ref s2]) bf269_1488 bf269_1490 rfl rfl).trans ?_
  refine (bu (ls'' := [some (.ref l0), some (.ref l1), some (.ref l2), some (.ref l3), some (.int l4), some (.int l5), none, none]) (st' := [.int (nI 3), .int l4, .ref l0, .int s0, .int s1, .ref s2]) bf269_1490 bf269_1491 rfl rfl).trans ?_
  refine (bu (ls'' := [some (.ref l0), some (.ref l1), some (.ref l2), some (.ref l3), some (.int l4), some (.int l5), none, none]) (st' := [.int (l4 + (nI 3)), .ref l0, .int s0, .int s1, .ref s2]) bf269_1491 bf269_1492 rfl rfl).trans ?_
  exact bh bf269_1492 bf269_1493 rfl (fun _ _ => am_ge_rf w) rfl
theorem bk269_1565 {w : am_Wd} {l0 : Nat} {l1 : Nat} {l2 : Nat} {l3 : Nat} {l4 : Int32} {l5 : Int32} {s0 : Int32} : am_run 269 1565 [some (.ref l0), some (.ref l1), some (.ref l2), some (.ref l3), some (.int l4), some (.int l5), none, none] [.int s0] w = (am_kf w l2 11).bind fun _ => (am_x 266 [.ref l2] w).bind fun r => bct r fun v w' => am_run 269 1571 [some (.ref l0), some (.ref l1), some (.ref l2), some (.ref l3), some (.int l4), some (.int l5), some (.int s0), none] (v.toList ++ []) w' := by
  refine (bu (ls'' := [some (.ref l0), some (.ref l1), some (.ref l2), some (.ref l3), some (.int l4), some (.int l5), some (.int s0), none]) (st' := []) bf269_1565 bf269_1567 rfl rfl).trans ?_
  refine (bu (ls'' := [some (.ref l0), some (.ref l1), some (.ref l2), some (.ref l3), some (.int l4), some (.int l5), some (.int s0), none]) (st' := [.ref l2]) bf269_1567 bf269_1568 rfl rfl).trans ?_
  exact bkV bf269_1568 bf269_1571 rfl (by decide +kernel) (Nat.le_of_ble_eq_true rfl) rfl (bhd rfl)
theorem bk269_1641 {w : am_Wd} {l0 : Nat} {l1 : Nat} {l2 : Nat} {l3 : Nat} {l4 : Int32} {l5 : Int32} {s0 : Int64} : am_run 269 1641 [some (.ref l0), some (.ref l1), some (.ref l2), some (.ref l3), some (.int l4), some (.int l5), none, none] [.long s0] w = (am_kf w l2 11).bind fun _ => (am_x 266 [.ref l2] w).bind fun r => bct r fun v w' => am_run 269 1647 [some (.ref l0), some (.ref l1), some (.ref l2), some (.ref l3), some (.int l4), some (.int l5), some (.long s0), none] (v.toList ++ []) w' := by
  refine (bu (ls'' := [some (.ref l0), some (.ref l1), some (.ref l2), some (.ref l3), some (.int l4), some (.int l5), some (.long s0), none]) (st' := []) bf269_1641 bf269_1643 rfl rfl).trans ?_
  refine (bu (ls'' := [some (.ref l0), some (.ref l1), some (.ref l2), some (.ref l3), some (.int l4), some (.int l5), some (.long s0), none]) (st' := [.ref l2]) bf269_1643 bf269_1644 rfl rfl).trans ?_
  exact bkV bf269_1644 bf269_1647 rfl (by decide +kernel) (Nat.le_of_ble_eq_true rfl) rfl (bhd rfl)
theorem bk269_1712 {w : am_Wd} {l0 : Nat} {l1 : Nat} {l2 : Nat} {l3 : Nat} {l4 : Int32} {l5 : Int32} {s0 : Int32} {s1 : Int32} {s2 : Nat} : am_run 269 1712 [some (.ref l0), some (.ref l1), some (.ref l2), some (.ref l3), some (.int l4), some (.int l5), none, none] [.int s0, .int s1, .ref s2] w = (am_ri 0 w l0 (l4 + (nI 3))).bind fun v => am_run 269 1718 [some (.ref l0), some (.ref l1), some (.ref l2), some (.ref l3), some (.int l4), some (.int l5), none, none] (.int v :: [.int s0, .int s1, .ref s2]) w := by
  refine (bu (ls'' := [some (.ref l0), some (.ref l1), some (.ref l2), some (.ref l3), some (.int l4), some (.int l5), none, none]) (st' := [.ref l0, .int s0, .int s1, .ref s2]) bf269_1712 bf269_1713 rfl rfl).trans ?_
  refine (bu (ls'' := [some (.ref l0), some (.ref l1), some (.ref l2), some (.ref l3), some (.int l4), some (.int l5), none, none]) (st' := [.int l4, .ref l0, .int s0, .int s1, .ref s2]) bf269_1713 bf269_1715 rfl rfl).trans ?_
  refine (bu (ls'' := [some (.ref l0), some (.ref l1), some (.ref l2), some (.ref l3), some (.int l4), some (.int l5), none, none]) (st' := [.int (nI 3), .int l4, .ref l0, .int s0, .int s1, .ref s2]) bf269_1715 bf269_1716 rfl rfl).trans ?_
  refine (bu (ls'' := [some (.ref l0), some (.ref l1), some (.ref l2), some (.ref l3), some (.int l4), some (.int l5), none, none]) (st' := [.int (l4 + (nI 3)), .ref l0, .int s0, .int s1, .ref s2]) bf269_1716 bf269_1717 rfl rfl).trans ?_
  exact bh bf269_1717 bf269_1718 rfl (fun _ _ => am_ge_rf w) rfl
theorem bk269_1790 {w : am_Wd} {l0 : Nat} {l1 : Nat} {l2 : Nat} {l3 : Nat} {l4 : Int32} {l5 : Int32} {s0 : Int32} : am_run 269 1790 [some (.ref l0), some (.ref l1), some (.ref l2), some (.ref l3), some (.int l4), some (.int l5), none, none] [.int s0] w = (am_kf w l2 11).bind fun _ => (am_x 266 [.ref l2] w).bind fun r => bct r fun v w' => am_run 269 1796 [some (.ref l0), some (.ref l1), some (.ref l2), some (.ref l3), some (.int l4), some (.int l5), some (.int s0), none] (v.toList ++ []) w' := by
  refine (bu (ls'' := [some (.ref l0), some (.ref l1), some (.ref l2), some (.ref l3), some (.int l4), some (.int l5), some (.int s0), none]) (st' := []) bf269_1790 bf269_1792 rfl rfl).trans ?_
  refine (bu (ls'' := [some (.ref l0), some (.ref l1), some (.ref l2), some (.ref l3), some (.int l4), some (.int l5), some (.int s0), none]) (st' := [.ref l2]) bf269_1792 bf269_1793 rfl rfl).trans ?_
  exact bkV bf269_1793 bf269_1796 rfl (by decide +kernel) (Nat.le_of_ble_eq_true rfl) rfl (bhd rfl)
theorem bk269_1860 {w : am_Wd} {l0 : Nat} {l1 : Nat} {l2 : Nat} {l3 : Nat} {l4 : Int32} {l5 : Int32} {l6 : UInt64} : am_run 269 1860 [some (.ref l0), some (.ref l1), some (.ref l2), some (.ref l3), some (.int l4), some (.int l5), some (.double l6), none] [] w = if ¬ l5 = nI 0 then am_run 269 1897 [some (.ref l0), some (.ref l1), some (.ref l2), some (.ref l3), some (.int l4), none, none, none] [] w else am_run 269 1865 [some (.ref l0), some (.ref l1), some (.ref l2), some (.ref l3), some (.int l4), none, some (.double l6), none] [] w := by
  refine (bu (ls'' := [some (.ref l0), some (.ref l1), some (.ref l2), some (.ref l3), some (.int l4), none, some (.double l6), none]) (st' := [.int l5]) bf269_1860 bf269_1862 rfl rfl).trans ?_
  exact bifc bf269_1862 rfl bf269_1897 bf269_1865 rfl rfl rfl
theorem bk269_1858 {w : am_Wd}  : am_run 269 1858 [none, none, none, none, none, none, none, none] [] w = some (.inl (some (.int (nI 0))), w) := by
  refine (bu (ls'' := [none, none, none, none, none, none, none, none]) (st' := [.int (nI 0)]) bf269_1858 bf269_1859 rfl rfl).trans ?_
  exact am_e2 bf269_1859 rfl (am_ge_rf w)
theorem bk269_1935 {w : am_Wd} {l0 : Nat} {l1 : Nat} {l2 : Nat} {l3 : Nat} {l4 : Int32} {l5 : Int32} {s0 : Int32} : am_run 269 1935 [some (.ref l0), some (.ref l1), some (.ref l2), some (.ref l3), some (.int l4), some (.int l5), none, none] [.int s0] w = (am_kf w l2 11).bind fun _ => (am_x 266 [.ref l2] w).bind fun r => bct r fun v w' => am_run 269 1941 [some (.ref l0), some (.ref l1), some (.ref l2), some (.ref l3), some (.int l4), some (.int l5), some (.int s0), none] (v.toList ++ []) w' := by
  refine (bu (ls'' := [some (.ref l0), some (.ref l1), some (.ref l2), some (.ref l3), some (.int l4), some (.int l5), some (.int s0), none]) (st' := []) bf269_1935 bf269_1937 rfl rfl).trans ?_
  refine (bu (ls'' := [some (.ref l0), some (.ref l1), some (.ref l2), some (.ref l3), some (.int l4), some (.int l5), some (.int s0), none]) (st' := [.ref l2]) bf269_1937 bf269_1938 rfl rfl).trans ?_
  exact bkV bf269_1938 bf269_1941 rfl (by decide +kernel) (Nat.le_of_ble_eq_true rfl) rfl (bhd rfl)
theorem bk269_2005 {w : am_Wd} {l0 : Nat} {l1 : Nat} {l2 : Nat} {l3 : Nat} {l4 : Int32} {l5 : Int32} {l6 : Int32} : am_run 269 2005 [some (.ref l0), some (.ref l1), some (.ref l2), some (.ref l3), some (.int l4), some (.int l5), some (.int l6), none] [] w = if ¬ l5 = nI 0 then am_run 269 2023 [some (.ref l0), some (.ref l1), some (.ref l2), some (.ref l3), some (.int l4), none, none, none] [] w else am_run 269 2010 [some (.ref l0), some (.ref l1), some (.ref l2), some (.ref l3), some (.int l4), none, some (.int l6), none] [] w := by
  refine (bu (ls'' := [some (.ref l0), some (.ref l1), some (.ref l2), some (.ref l3), some (.int l4), none, some (.int l6), none]) (st' := [.int l5]) bf269_2005 bf269_2007 rfl rfl).trans ?_
  exact bifc bf269_2007 rfl bf269_2023 bf269_2010 rfl rfl rfl
theorem bk269_2003 {w : am_Wd}  : am_run 269 2003 [none, none, none, none, none, none, none, none] [] w = some (.inl (some (.int (nI 0))), w) := by
  refine (bu (ls'' := [none, none, none, none, none, none, none, none]) (st' := [.int (nI 0)]) bf269_2003 bf269_2004 rfl rfl).trans ?_
  exact am_e2 bf269_2004 rfl (am_ge_rf w)
theorem bk269_2061 {w : am_Wd} {l0 : Nat} {l1 : Nat} {l2 : Nat} {l3 : Nat} {l4 : Int32} {l5 : Int32} {s0 : Int32} : am_run 269 2061 [some (.ref l0), some (.ref l1), some (.ref l2), some (.ref l3), some (.int l4), some (.int l5), none, none] [.int s0] w = (am_kf w l2 11).bind fun _ => (am_x 266 [.ref l2] w).bind fun r => bct r fun v w' => am_run 269 2067 [some (.ref l0), some (.ref l1), some (.ref l2), some (.ref l3), some (.int l4), some (.int l5), some (.int s0), none] (v.toList ++ []) w' := by
  refine (bu (ls'' := [some (.ref l0), some (.ref l1), some (.ref l2), some (.ref l3), some (.int l4), some (.int l5), some (.int s0), none]) (st' := []) bf269_2061 bf269_2063 rfl rfl).trans ?_
  refine (bu (ls'' := [some (.ref l0), some (.ref l1), some (.ref l2), some (.ref l3), some (.int l4), some (.int l5), some (.int s0), none]) (st' := [.ref l2]) bf269_2063 bf269_2064 rfl rfl).trans ?_
  exact bkV bf269_2064 bf269_2067 rfl (by decide +kernel) (Nat.le_of_ble_eq_true rfl) rfl (bhd rfl)
theorem bk269_2130 {w : am_Wd} {l0 : Nat} {l1 : Nat} {l2 : Nat} {l3 : Nat} {l4 : Int32} {l5 : Int32} {s0 : Int32} : am_run 269 2130 [some (.ref l0), some (.ref l1), some (.ref l2), some (.ref l3), some (.int l4), some (.int l5), none, none] [.int s0] w = (am_kf w l2 11).bind fun _ => (am_x 266 [.ref l2] w).bind fun r => bct r fun v w' => am_run 269 2136 [some (.ref l0), some (.ref l1), some (.ref l2), some (.ref l3), some (.int l4), some (.int l5), some (.int s0), none] (v.toList ++ []) w' := by
  refine (bu (ls'' := [some (.ref l0), some (.ref l1), some (.ref l2), some (.ref l3), some (.int l4), some (.int l5), some (.int s0), none]) (st' := []) bf269_2130 bf269_2132 rfl rfl).trans ?_
  refine (bu (ls'' := [some (.ref l0), some (.ref l1), some (.ref l2), some (.ref l3), some (.int l4), some (.int l5), some (.int s0), none]) (st' := [.ref l2]) bf269_2132 bf269_2133 rfl rfl).trans ?_
  exact bkV bf269_2133 bf269_2136 rfl (by decide +kernel) (Nat.le_of_ble_eq_true rfl) rfl (bhd rfl)
theorem bk269_216 {w : am_Wd} {l0 : Nat} {l1 : Nat} {l2 : Nat} {l3 : Nat} {l4 : Int32} {l5 : Int32} {s0 : Int32} {s1 : Int32} {s2 : Nat} : am_run 269 216 [some (.ref l0), some (.ref l1), some (.ref l2), some (.ref l3), some (.int l4), some (.int l5), none, none] [.int s0, .int s1, .ref s2] w = (am_ri 0 w l0 (l4 + (nI 3))).bind fun v => am_run 269 222 [some (.ref l0), some (.ref l1), some (.ref l2), some (.ref l3), some (.int l4), some (.int l5), none, none] (.int v :: [.int s0, .int s1, .ref s2]) w := by
  refine (bu (ls'' := [some (.ref l0), some (.ref l1), some (.ref l2), some (.ref l3), some (.int l4), some (.int l5), none, none]) (st' := [.ref l0, .int s0, .int s1, .ref s2]) bf269_216 bf269_217 rfl rfl).trans ?_
  refine (bu (ls'' := [some (.ref l0), some (.ref l1), some (.ref l2), some (.ref l3), some (.int l4), some (.int l5), none, none]) (st' := [.int l4, .ref l0, .int s0, .int s1, .ref s2]) bf269_217 bf269_219 rfl rfl).trans ?_
  refine (bu (ls'' := [some (.ref l0), some (.ref l1), some (.ref l2), some (.ref l3), some (.int l4), some (.int l5), none, none]) (st' := [.int (nI 3), .int l4, .ref l0, .int s0, .int s1, .ref s2]) bf269_219 bf269_220 rfl rfl).trans ?_
  refine (bu (ls'' := [some (.ref l0), some (.ref l1), some (.ref l2), some (.ref l3), some (.int l4), some (.int l5), none, none]) (st' := [.int (l4 + (nI 3)), .ref l0, .int s0, .int s1, .ref s2]) bf269_220 bf269_221 rfl rfl).trans ?_
  exact bh bf269_221 bf269_222 rfl (fun _ _ => am_ge_rf w) rfl
theorem bk269_319 {w : am_Wd} {l0 : Nat} {l1 : Nat} {l2 : Nat} {l3 : Nat} {l4 : Int32} : am_run 269 319 [some (.ref l0), some (.ref l1), some (.ref l2), some (.ref l3), some (.int l4), none, none, none] [] w = am_run 269 2191 [some (.ref l0), some (.ref l1), some (.ref l2), some (.ref l3), some (.int l4), none, none, none] [] w := by
  refine (bu (ls'' := [some (.ref l0), some (.ref l1), some (.ref l2), some (.ref l3), some (.int l4), none, none, none]) (st' := []) bf269_319 bf269_2191 rfl rfl).trans ?_
  rfl
theorem bk269_306 {w : am_Wd} {l0 : Nat} {l1 : Nat} {l2 : Nat} {l3 : Nat} {l4 : Int32} {l6 : Int32} : am_run 269 306 [some (.ref l0), some (.ref l1), some (.ref l2), some (.ref l3), some (.int l4), none, some (.int l6), none] [] w = (am_gf w l3 9 0).bind fun v => am_run 269 310 [some (.ref l0), some (.ref l1), some (.ref l2), some (.ref l3), some (.int l4), none, some (.int l6), none] (v :: []) w := by
  refine (bu (ls'' := [some (.ref l0), some (.ref l1), some (.ref l2), some (.ref l3), some (.int l4), none, some (.int l6), none]) (st' := [.ref l3]) bf269_306 bf269_307 rfl rfl).trans ?_
  exact bh bf269_307 bf269_310 rfl (fun _ _ => am_ge_rf w) rfl
theorem bk269_357 {w : am_Wd} {l0 : Nat} {l1 : Nat} {l2 : Nat} {l3 : Nat} {l4 : Int32} {s0 : Int32} {s1 : Int32} {s2 : Int32} {s3 : Nat} : am_run 269 357 [some (.ref l0), some (.ref l1), some (.ref l2), some (.ref l3), some (.int l4), none, none, none] [.int s0, .int s1, .int s2, .ref s3] w = (am_x 147 [.ref s3, .int s2, .int s1, .int s0, .ref l3] w).bind fun r => bct r fun v w' => am_run 269 361 [some (.ref l0), some (.ref l1), some (.ref l2), some (.ref l3), some (.int l4), none, none, none] (v.toList ++ []) w' := by
  refine (bu (ls'' := [some (.ref l0), some (.ref l1), some (.ref l2), some (.ref l3), some (.int l4), none, none, none]) (st' := [.ref l3, .int s0, .int s1, .int s2, .ref s3]) bf269_357 bf269_358 rfl rfl).trans ?_
  exact bkS bf269_358 bf269_361 rfl (by decide +kernel) (Nat.le_of_ble_eq_true rfl) rfl (bhd rfl)
theorem bk269_472 {w : am_Wd} {l0 : Nat} {l1 : Nat} {l2 : Nat} {l3 : Nat} {l4 : Int32} {s0 : Int32} : am_run 269 472 [some (.ref l0), some (.ref l1), some (.ref l2), some (.ref l3), some (.int l4), none, none, none] [.int s0] w = (am_ri 0 w l0 (l4 + (nI 1))).bind fun v => am_run 269 481 [some (.ref l0), some (.ref l1), some (.ref l2), some (.ref l3), some (.int l4), some (.int s0), none, none] (.int v :: [.ref l2]) w := by
  refine (bu (ls'' := [some (.ref l0), some (.ref l1), some (.ref l2), some (.ref l3), some (.int l4), some (.int s0), none, none]) (st' := []) bf269_472 bf269_474 rfl rfl).trans ?_
  refine (bu (ls'' := [some (.ref l0), some (.ref l1), some (.ref l2), some (.ref l3), some (.int l4), some (.int s0), none, none]) (st' := [.ref l2]) bf269_474 bf269_475 rfl rfl).trans ?_
  refine (bu (ls'' := [some (.ref l0), some (.ref l1), some (.ref l2), some (.ref l3), some (.int l4), some (.int s0), none, none]) (st' := [.ref l0, .ref l2]) bf269_475 bf269_476 rfl rfl).trans ?_
  refine (bu (ls'' := [some (.ref l0), some (.ref l1), some (.ref l2), some (.ref l3), some (.int l4), some (.int s0), none, none]) (st' := [.int l4, .ref l0, .ref l2]) bf269_476 bf269_478 rfl rfl).trans ?_
  refine (bu (ls'' := [some (.ref l0), some (.ref l1), some (.ref l2), some (.ref l3), some (.int l4), some (.int s0), none, none]) (st' := [.int (nI 1), .int l4, .ref l0, .ref l2]) bf269_478 bf269_479 rfl rfl).trans ?_
  refine (bu (ls'' := [some (.ref l0), some (.ref l1), some (.ref l2), some (.ref l3), some (.int l4), some (.int s0), none, none]) (st' := [.int (l4 + (nI 1)), .ref l0, .ref l2]) bf269_479 bf269_480 rfl rfl).trans ?_
  exact bh bf269_480 bf269_481 rfl (fun _ _ => am_ge_rf w) rfl
theorem bk269_584 {w : am_Wd} {l0 : Nat} {l1 : Nat} {l2 : Nat} {l3 : Nat} {l4 : Int32} {l5 : Int32} {s0 : Int32} {s1 : Int32} {s2 : Nat} : am_run 269 584 [some (.ref l0), some (.ref l1), some (.ref l2), some (.ref l3), some (.int l4), some (.int l5), none, none] [.int s0, .int s1, .ref s2] w = if s0 = nI 0 then am_run 269 591 [some (.ref l0), some (.ref l1), some (.ref l2), some (.ref l3), some (.int l4), some (.int l5), none, none] [.int s1, .ref s2] w else am_run 269 587 [some (.ref l0), some (.ref l1), some (.ref l2), some (.ref l3), some (.int l4), some (.int l5), none, none] [.int s1, .ref s2] w := by
  exact bifc bf269_584 rfl bf269_591 bf269_587 rfl rfl rfl
theorem bk269_671 {w : am_Wd} {l0 : Nat} {l1 : Nat} {l2 : Nat} {l3 : Nat} {l4 : Int32} {s0 : Int32} {s1 : Int32} {s2 : Int32} {s3 : Nat} : am_run 269 671 [some (.ref l0), some (.ref l1), some (.ref l2), some (.ref l3), some (.int l4), none, none, none] [.int s0, .int s1, .int s2, .ref s3] w = (am_x 254 [.ref s3, .int s2, .int s1, .int s0, .ref l3] w).bind fun r => bct r fun v w' => am_run 269 675 [some (.ref l0), some (.ref l1), some (.ref l2), some (.ref l3), some (.int l4), none, none, none] (v.toList ++ []) w' := by
  refine (bu (ls'' := [some (.ref l0), some (.ref l1), some (.ref l2), some (.ref l3), some (.int l4), none, none, none]) (st' := [.ref l3, .int s0, .int s1, .int s2, .ref s3]) bf269_671 bf269_672 rfl rfl).trans ?_
  exact bkS bf269_672 bf269_675 rfl (by decide +kernel) (Nat.le_of_ble_eq_true rfl) rfl (bhd rfl)
theorem bk269_789 {w : am_Wd} {l0 : Nat} {l1 : Nat} {l2 : Nat} {l3 : Nat} {l4 : Int32} {l5 : Int32} {s0 : Int32} {s1 : Int32} {s2 : Nat} : am_run 269 789 [some (.ref l0), some (.ref l1), some (.ref l2), some (.ref l3), some (.int l4), some (.int l5), none, none] [.int s0, .int s1, .ref s2] w = if s0 = nI 0 then am_run 269 796 [some (.ref l0), some (.ref l1), some (.ref l2), some (.ref l3), some (.int l4), some (.int l5), none, none] [.int s1, .ref s2] w else am_run 269 792 [some (.ref l0), some (.ref l1), some (.ref l2), some (.ref l3), some (.int l4), some (.int l5), none, none] [.int s1, .ref s2] w := by
  exact bifc bf269_789 rfl bf269_796 bf269_792 rfl rfl rfl
theorem bk269_874 {w : am_Wd} {l0 : Nat} {l1 : Nat} {l2 : Nat} {l3 : Nat} {l4 : Int32} {l5 : Int32} {s0 : Int32} {s1 : Int32} {s2 : Nat} : am_run 269 874 [some (.ref l0), some (.ref l1), some (.ref l2), some (.ref l3), some (.int l4), some (.int l5), none, none] [.int s0, .int s1, .ref s2] w = if s0 = nI 0 then am_run 269 881 [some (.ref l0), some (.ref l1), some (.ref l2), some (.ref l3), some (.int l4), some (.int l5), none, none] [.int s1, .ref s2] w else am_run 269 877 [some (.ref l0), some (.ref l1), some (.ref l2), some (.ref l3), some (.int l4), some (.int l5), none, none] [.int s1, .ref s2] w := by
  exact bifc bf269_874 rfl bf269_881 bf269_877 rfl rfl rfl
theorem bk269_960 {w : am_Wd} {l0 : Nat} {l1 : Nat} {l2 : Nat} {l3 : Nat} {l4 : Int32} {l5 : Int32} {l6 : Int32} {s0 : Int32} : am_run 269 960 [some (.ref l0), some (.ref l1), some (.ref l2), some (.ref l3), some (.int l4), some (.int l5), some (.int l6), none] [.int s0] w = if s0 = l5 then am_run 269 967 [some (.ref l0), some (.ref l1), some (.ref l2), some (.ref l3), some (.int l4), some (.int l5), some (.int l6), none] [] w else am_run 269 965 [none, none, none, none, none, none, none, none] [] w := by
  refine (bu (ls'' := [some (.ref l0), some (.ref l1), some (.ref l2), some (.ref l3), some (.int l4), some (.int l5), some (.int l6), none]) (st' := [.int l5, .int s0]) bf269_960 bf269_962 rfl rfl).trans ?_
  exact bic bf269_962 rfl bf269_967 bf269_965 rfl rfl rfl
theorem bk269_1042 {w : am_Wd} {l0 : Nat} {l1 : Nat} {l2 : Nat} {l3 : Nat} {l4 : Int32} : am_run 269 1042 [some (.ref l0), some (.ref l1), some (.ref l2), some (.ref l3), some (.int l4), none, none, none] [] w = am_run 269 2191 [some (.ref l0), some (.ref l1), some (.ref l2), some (.ref l3), some (.int l4), none, none, none] [] w := by
  refine (bu (ls'' := [some (.ref l0), some (.ref l1), some (.ref l2), some (.ref l3), some (.int l4), none, none, none]) (st' := []) bf269_1042 bf269_2191 rfl rfl).trans ?_
  rfl
theorem bk269_1029 {w : am_Wd} {l0 : Nat} {l1 : Nat} {l2 : Nat} {l3 : Nat} {l4 : Int32} {l6 : Int32} : am_run 269 1029 [some (.ref l0), some (.ref l1), some (.ref l2), some (.ref l3), some (.int l4), none, some (.int l6), none] [] w = (am_gf w l3 9 0).bind fun v => am_run 269 1033 [some (.ref l0), some (.ref l1), some (.ref l2), some (.ref l3), some (.int l4), none, some (.int l6), none] (v :: []) w := by
  refine (bu (ls'' := [some (.ref l0), some (.ref l1), some (.ref l2), some (.ref l3), some (.int l4), none, some (.int l6), none]) (st' := [.ref l3]) bf269_1029 bf269_1030 rfl rfl).trans ?_
  exact bh bf269_1030 bf269_1033 rfl (fun _ _ => am_ge_rf w) rfl
theorem bk269_1086 {w : am_Wd} {l0 : Nat} {l1 : Nat} {l2 : Nat} {l3 : Nat} {l4 : Int32} {l5 : Int32} {l6 : Int32} {s0 : Int32} : am_run 269 1086 [some (.ref l0), some (.ref l1), some (.ref l2), some (.ref l3), some (.int l4), some (.int l5), some (.int l6), none] [.int s0] w = if s0 = l5 then am_run 269 1093 [some (.ref l0), some (.ref l1), some (.ref l2), some (.ref l3), some (.int l4), some (.int l5), some (.int l6), none] [] w else am_run 269 1091 [none, none, none, none, none, none, none, none] [] w := by
  refine (bu (ls'' := [some (.ref l0), some (.ref l1), some (.ref l2), some (.ref l3), some (.int l4), some (.int l5), some (.int l6), none]) (st' := [.int l5, .int s0]) bf269_1086 bf269_1088 rfl rfl).trans ?_
  exact bic bf269_1088 rfl bf269_1093 bf269_1091 rfl rfl rfl
theorem bk269_1168 {w : am_Wd} {l0 : Nat} {l1 : Nat} {l2 : Nat} {l3 : Nat} {l4 : Int32} : am_run 269 1168 [some (.ref l0), some (.ref l1), some (.ref l2), some (.ref l3), some (.int l4), none, none, none] [] w = am_run 269 2191 [some (.ref l0), some (.ref l1), some (.ref l2), some (.ref l3), some (.int l4), none, none, none] [] w := by
  refine (bu (ls'' := [some (.ref l0), some (.ref l1), some (.ref l2), some (.ref l3), some (.int l4), none, none, none]) (st' := []) bf269_1168 bf269_2191 rfl rfl).trans ?_
  rfl
theorem bk269_1155 {w : am_Wd} {l0 : Nat} {l1 : Nat} {l2 : Nat} {l3 : Nat} {l4 : Int32} {l6 : Int32} : am_run 269 1155 [some (.ref l0), some (.ref l1), some (.ref l2), some (.ref l3), some (.int l4), none, some (.int l6), none] [] w = (am_gf w l3 9 0).bind fun v => am_run 269 1159 [some (.ref l0), some (.ref l1), some (.ref l2), some (.ref l3), some (.int l4), none, some (.int l6), none] (v :: []) w := by
  refine (bu (ls'' := [some (.ref l0), some (.ref l1), some (.ref l2), some (.ref l3), some (.int l4), none, some (.int l6), none]) (st' := [.ref l3]) bf269_1155 bf269_1156 rfl rfl).trans ?_
  exact bh bf269_1156 bf269_1159 rfl (fun _ _ => am_ge_rf w) rfl
theorem bk269_1228 {w : am_Wd} {l0 : Nat} {l1 : Nat} {l2 : Nat} {l3 : Nat} {l4 : Int32} {l5 : Int32} {s0 : Int32} {s1 : Int32} {s2 : Int32} {s3 : Nat} : am_run 269 1228 [some (.ref l0), some (.ref l1), some (.ref l2), some (.ref l3), some (.int l4), some (.int l5), none, none] [.int s0, .int s1, .int s2, .ref s3] w = (am_kf w s3 11).bind fun _ => (am_x 212 [.ref s3, .int s2, .int s1, .int s0] w).bind fun r => bct r fun v w' => am_run 269 1231 [some (.ref l0), some (.ref l1), some (.ref l2), some (.ref l3), some (.int l4), some (.int l5), none, none] (v.toList ++ []) w' := by
  exact bkV bf269_1228 bf269_1231 rfl (by decide +kernel) (Nat.le_of_ble_eq_true rfl) rfl (bhd rfl)
theorem bk269_1306 {w : am_Wd} {l0 : Nat} {l1 : Nat} {l2 : Nat} {l3 : Nat} {l4 : Int32} {l5 : Int32} {l6 : Int32} {s0 : Int32} : am_run 269 1306 [some (.ref l0), some (.ref l1), some (.ref l2), some (.ref l3), some (.int l4), some (.int l5), some (.int l6), none] [.int s0] w = if s0 = l5 then am_run 269 1313 [some (.ref l0), some (.ref l1), some (.ref l2), some (.ref l3), some (.int l4), some (.int l5), some (.int l6), none] [] w else am_run 269 1311 [none, none, none, none, none, none, none, none] [] w := by
  refine (bu (ls'' := [some (.ref l0), some (.ref l1), some (.ref l2), some (.ref l3), some (.int l4), some (.int l5), some (.int l6), none]) (st' := [.int l5, .int s0]) bf269_1306 bf269_1308 rfl rfl).trans ?_
  exact bic bf269_1308 rfl bf269_1313 bf269_1311 rfl rfl rfl
theorem bk269_1388 {w : am_Wd} {l0 : Nat} {l1 : Nat} {l2 : Nat} {l3 : Nat} {l4 : Int32} : am_run 269 1388 [some (.ref l0), some (.ref l1), some (.ref l2), some (.ref l3), some (.int l4), none, none, none] [] w = am_run 269 2191 [some (.ref l0), some (.ref l1), some (.ref l2), some (.ref l3), some (.int l4), none, none, none] [] w := by
  refine (bu (ls'' := [some (.ref l0), some (.ref l1), some (.ref l2), some (.ref l3), some (.int l4), none, none, none]) (st' := []) bf269_1388 bf269_2191 rfl rfl).trans ?_
  rfl
theorem bk269_1375 {w : am_Wd} {l0 : Nat} {l1 : Nat} {l2 : Nat} {l3 : Nat} {l4 : Int32} {l6 : Int32} : am_run 269 1375 [some (.ref l0), some (.ref l1), some (.ref l2), some (.ref l3), some (.int l4), none, some (.int l6), none] [] w = (am_gf w l3 9 0).bind fun v => am_run 269 1379 [some (.ref l0), some (.ref l1), some (.ref l2), some (.ref l3), some (.int l4), none, some (.int l6), none] (v :: []) w := by
  refine (bu (ls'' := [some (.ref l0), some (.ref l1), some (.ref l2), some (.ref l3), some (.int l4), none, some (.int l6), none]) (st' := [.ref l3]) bf269_1375 bf269_1376 rfl rfl).trans ?_
  exact bh bf269_1376 bf269_1379 rfl (fun _ _ => am_ge_rf w) rfl
theorem bk269_1446 {w : am_Wd} {l0 : Nat} {l1 : Nat} {l2 : Nat} {l3 : Nat} {l4 : Int32} : am_run 269 1446 [some (.ref l0), some (.ref l1), some (.ref l2), some (.ref l3), some (.int l4), none, none, none] [] w = am_run 269 2191 [some (.ref l0), some (.ref l1), some (.ref l2), some (.ref l3), some (.int l4), none, none, none] [] w := by
  refine (bu (ls'' := [some (.ref l0), some (.ref l1), some (.ref l2), some (.ref l3), some (.int l4), none, none, none]) (st' := []) bf269_1446 bf269_2191 rfl rfl).trans ?_
  rfl
theorem bk269_1432 {w : am_Wd} {l0 : Nat} {l1 : Nat} {l2 : Nat} {l3 : Nat} {l4 : Int32} {l6 : Nat} : am_run 269 1432 [some (.ref l0), some (.ref l1), some (.ref l2), some (.ref l3), some (.int l4), none, some (.ref l6), none] [] w = (am_gf w l3 9 2).bind fun v => am_run 269 1436 [some (.ref l0), some (.ref l1), some (.ref l2), some (.ref l3), some (.int l4), none, some (.ref l6), none] (v :: []) w := by
  refine (bu (ls'' := [some (.ref l0), some (.ref l1), some (.ref l2), some (.ref l3), some (.int l4), none, some (.ref l6), none]) (st' := [.ref l3]) bf269_1432 bf269_1433 rfl rfl).trans ?_
  exact bh bf269_1433 bf269_1436 rfl (fun _ _ => am_ge_rf w) rfl
theorem bk269_1493 {w : am_Wd} {l0 : Nat} {l1 : Nat} {l2 : Nat} {l3 : Nat} {l4 : Int32} {l5 : Int32} {s0 : Int32} {s1 : Int32} {s2 : Int32} {s3 : Nat} : am_run 269 1493 [some (.ref l0), some (.ref l1), some (.ref l2), some (.ref l3), some (.int l4), some (.int l5), none, none] [.int s0, .int s1, .int s2, .ref s3] w = (am_kf w s3 11).bind fun _ => (am_x 214 [.ref s3, .int s2, .int s1, .int s0] w).bind fun r => bct r fun v w' => am_run 269 1496 [some (.ref l0), some (.ref l1), some (.ref l2), some (.ref l3), some (.int l4), some (.int l5), none, none] (v.toList ++ []) w' := by
  exact bkV bf269_1493 bf269_1496 rfl (by decide +kernel) (Nat.le_of_ble_eq_true rfl) rfl (bhd rfl)
theorem bk269_1571 {w : am_Wd} {l0 : Nat} {l1 : Nat} {l2 : Nat} {l3 : Nat} {l4 : Int32} {l5 : Int32} {l6 : Int32} {s0 : Int32} : am_run 269 1571 [some (.ref l0), some (.ref l1), some (.ref l2), some (.ref l3), some (.int l4), some (.int l5), some (.int l6), none] [.int s0] w = if s0 = l5 then am_run 269 1578 [some (.ref l0), some (.ref l1), some (.ref l2), some (.ref l3), some (.int l4), some (.int l5), some (.int l6), none] [] w else am_run 269 1576 [none, none, none, none, none, none, none, none] [] w := by
  refine (bu (ls'' := [some (.ref l0), some (.ref l1), some (.ref l2), some (.ref l3), some (.int l4), some (.int l5), some (.int l6), none]) (st' := [.int l5, .int s0]) bf269_1571 bf269_1573 rfl rfl).trans ?_
  exact bic bf269_1573 rfl bf269_1578 bf269_1576 rfl rfl rfl
theorem bk269_1647 {w : am_Wd} {l0 : Nat} {l1 : Nat} {l2 : Nat} {l3 : Nat} {l4 : Int32} {l5 : Int32} {l6 : Int64} {s0 : Int32} : am_run 269 1647 [some (.ref l0), some (.ref l1), some (.ref l2), some (.ref l3), some (.int l4), some (.int l5), some (.long l6), none] [.int s0] w = if s0 = l5 then am_run 269 1654 [some (.ref l0), some (.ref l1), some (.ref l2), some (.ref l3), some (.int l4), some (.int l5), some (.long l6), none] [] w else am_run 269 1652 [none, none, none, none, none, none, none, none] [] w := by
  refine (bu (ls'' := [some (.ref l0), some (.ref l1), some (.ref l2), some (.ref l3), some (.int l4), some (.int l5), some (.long l6), none]) (st' := [.int l5, .int s0]) bf269_1647 bf269_1649 rfl rfl).trans ?_
  exact bic bf269_1649 rfl bf269_1654 bf269_1652 rfl rfl rfl
theorem bk269_1718 {w : am_Wd} {l0 : Nat} {l1 : Nat} {l2 : Nat} {l3 : Nat} {l4 : Int32} {l5 : Int32} {s0 : Int32} {s1 : Int32} {s2 : Int32} {s3 : Nat} : am_run 269 1718 [some (.ref l0), some (.ref l1), some (.ref l2), some (.ref l3), some (.int l4), some (.int l5), none, none] [.int s0, .int s1, .int s2, .ref s3] w = (am_kf w s3 11).bind fun _ => (am_x 228 [.ref s3, .int s2, .int s1, .int s0] w).bind fun r => bct r fun v w' => am_run 269 1721 [some (.ref l0), some (.ref l1), some (.ref l2), some (.ref l3), some (.int l4), some (.int l5), none, none] (v.toList ++ []) w' := by
  exact bkV bf269_1718 bf269_1721 rfl (by decide +kernel) (Nat.le_of_ble_eq_true rfl) rfl (bhd rfl)
theorem bk269_1796 {w : am_Wd} {l0 : Nat} {l1 : Nat} {l2 : Nat} {l3 : Nat} {l4 : Int32} {l5 : Int32} {l6 : Int32} {s0 : Int32} : am_run 269 1796 [some (.ref l0), some (.ref l1), some (.ref l2), some (.ref l3), some (.int l4), some (.int l5), some (.int l6), none] [.int s0] w = if s0 = l5 then am_run 269 1803 [some (.ref l0), some (.ref l1), some (.ref l2), some (.ref l3), some (.int l4), some (.int l5), some (.int l6), none] [] w else am_run 269 1801 [none, none, none, none, none, none, none, none] [] w := by
  refine (bu (ls'' := [some (.ref l0), some (.ref l1), some (.ref l2), some (.ref l3), some (.int l4), some (.int l5), some (.int l6), none]) (st' := [.int l5, .int s0]) bf269_1796 bf269_1798 rfl rfl).trans ?_
  exact bic bf269_1798 rfl bf269_1803 bf269_1801 rfl rfl rfl
theorem bk269_1897 {w : am_Wd} {l0 : Nat} {l1 : Nat} {l2 : Nat} {l3 : Nat} {l4 : Int32} : am_run 269 1897 [some (.ref l0), some (.ref l1), some (.ref l2), some (.ref l3), some (.int l4), none, none, none] [] w = am_run 269 2191 [some (.ref l0), some (.ref l1), some (.ref l2), some (.ref l3), some (.int l4), none, none, none] [] w := by
  refine (bu (ls'' := [some (.ref l0), some (.ref l1), some (.ref l2), some (.ref l3), some (.int l4), none, none, none]) (st' := []) bf269_1897 bf269_2191 rfl rfl).trans ?_
  rfl
theorem bk269_1865 {w : am_Wd} {l0 : Nat} {l1 : Nat} {l2 : Nat} {l3 : Nat} {l4 : Int32} {l6 : UInt64} : am_run 269 1865 [some (.ref l0), some (.ref l1), some (.ref l2), some (.ref l3), some (.int l4), none, some (.double l6), none] [] w = (am_gf w l3 9 1).bind fun v => am_run 269 1869 [some (.ref l0), some (.ref l1), some (.ref l2), some (.ref l3), some (.int l4), none, some (.double l6), none] (v :: []) w := by
  refine (bu (ls'' := [some (.ref l0), some (.ref l1), some (.ref l2), some (.ref l3), some (.int l4), none, some (.double l6), none]) (st' := [.ref l3]) bf269_1865 bf269_1866 rfl rfl).trans ?_
  exact bh bf269_1866 bf269_1869 rfl (fun _ _ => am_ge_rf w) rfl
theorem bk269_1941 {w : am_Wd} {l0 : Nat} {l1 : Nat} {l2 : Nat} {l3 : Nat} {l4 : Int32} {l5 : Int32} {l6 : Int32} {s0 : Int32} : am_run 269 1941 [some (.ref l0), some (.ref l1), some (.ref l2), some (.ref l3), some (.int l4), some (.int l5), some (.int l6), none] [.int s0] w = if s0 = l5 then am_run 269 1948 [some (.ref l0), some (.ref l1), some (.ref l2), some (.ref l3), some (.int l4), some (.int l5), some (.int l6), none] [] w else am_run 269 1946 [none, none, none, none, none, none, none, none] [] w := by
  refine (bu (ls'' := [some (.ref l0), some (.ref l1), some (.ref l2), some (.ref l3), some (.int l4), some (.int l5), some (.int l6), none]) (st' := [.int l5, .int s0]) bf269_1941 bf269_1943 rfl rfl).trans ?_
  exact bic bf269_1943 rfl bf269_1948 bf269_1946 rfl rfl rfl
theorem bk269_2023 {w : am_Wd} {l0 : Nat} {l1 : Nat} {l2 : Nat} {l3 : Nat} {l4 : Int32} : am_run 269 2023 [some (.ref l0), some (.ref l1), some (.ref l2), some (.ref l3), some (.int l4), none, none, none] [] w = am_run 269 2191 [some (.ref l0), some (.ref l1), some (.ref l2), some (.ref l3), some (.int l4), none, none, none] [] w := by
  refine (bu (ls'' := [some (.ref l0), some (.ref l1), some (.ref l2), some (.ref l3), some (.int l4), none, none, none]) (st' := []) bf269_2023 bf269_2191 rfl rfl).trans ?_
  rfl
theorem bk269_2010 {w : am_Wd} {l0 : Nat} {l1 : Nat} {l2 : Nat} {l3 : Nat} {l4 : Int32} {l6 : Int32} : am_run 269 2010 [some (.ref l0), some (.ref l1), some (.ref l2), some (.ref l3), some (.int l4), none, some (.int l6), none] [] w = (am_gf w l3 9 0).bind fun v => am_run 269 2014 [some (.ref l0), some (.ref l1), some (.ref l2), some (.ref l3), some (.int l4), none, some (.int l6), none] (v :: []) w := by
  refine (bu (ls'' := [some (.ref l0), some (.ref l1), some (.ref l2), some (.ref l3), some (.int l4), none, some (.int l6), none]) (st' := [.ref l3]) bf269_2010 bf269_2011 rfl rfl).trans ?_
  exact bh bf269_2011 bf269_2014 rfl (fun _ _ => am_ge_rf w) rfl
theorem bk269_2067 {w : am_Wd} {l0 : Nat} {l1 : Nat} {l2 : Nat} {l3 : Nat} {l4 : Int32} {l5 : Int32} {l6 : Int32} {s0 : Int32} : am_run 269 2067 [some (.ref l0), some (.ref l1), some (.ref l2), some (.ref l3), some (.int l4), some (.int l5), some (.int l6), none] [.int s0] w = if s0 = l5 then am_run 269 2074 [some (.ref l0), some (.ref l1), some (.ref l2), some (.ref l3), some (.int l4), some (.int l5), some (.int l6), none] [] w else am_run 269 2072 [none, none, none, none, none, none, none, none] [] w := by
  refine (bu (ls'' := [some (.ref l0), some (.ref l1), some (.ref l2), some (.ref l3), some (.int l4), some (.int l5), some (.int l6), none]) (st' := [.int l5, .int s0]) bf269_2067 bf269_2069 rfl rfl).trans ?_
  exact bic bf269_2069 rfl bf269_2074 bf269_2072 rfl rfl rfl
theorem bk269_2136 {w : am_Wd} {l0 : Nat} {l1 : Nat} {l2 : Nat} {l3 : Nat} {l4 : Int32} {l5 : Int32} {l6 : Int32} {s0 : Int32} : am_run 269 2136 [some (.ref l0), some (.ref l1), some (.ref l2), some (.ref l3), some (.int l4), some (.int l5), some (.int l6), none] [.int s0] w = if s0 = l5 then am_run 269 2143 [some (.ref l0), some (.ref l1), some (.ref l2), some (.ref l3), some (.int l4), some (.int l5), some (.int l6), none] [] w else am_run 269 2141 [none, none, none, none, none, none, none, none] [] w := by
  refine (bu (ls'' := [some (.ref l0), some (.ref l1), some (.ref l2), some (.ref l3), some (.int l4), some (.int l5), some (.int l6), none]) (st' := [.int l5, .int s0]) bf269_2136 bf269_2138 rfl rfl).trans ?_
  exact bic bf269_2138 rfl bf269_2143 bf269_2141 rfl rfl rfl
theorem bk269_222 {w : am_Wd} {l0 : Nat} {l1 : Nat} {l2 : Nat} {l3 : Nat} {l4 : Int32} {l5 : Int32} {s0 : Int32} {s1 : Int32} {s2 : Int32} {s3 : Nat} : am_run 269 222 [some (.ref l0), some (.ref l1), some (.ref l2), some (.ref l3), some (.int l4), some (.int l5), none, none] [.int s0, .int s1, .int s2, .ref s3] w = (am_ri 0 w l0 (l4 + (nI 4))).bind fun v => am_run 269 228 [some (.ref l0), some (.ref l1), some (.ref l2), some (.ref l3), some (.int l4), some (.int l5), none, none] (.int v :: [.int s0, .int s1, .int s2, .ref s3]) w := by
  refine (bu (ls'' := [some (.ref l0), some (.ref l1), some (.ref l2), some (.ref l3), some (.int l4), some (.int l5), none, none]) (st' := [.ref l0, .int s0, .int s1, .int s2, .ref s3]) bf269_222 bf269_223 rfl rfl).trans ?_
  refine (bu (ls'' := [some (.ref l0), some (.ref l1), some (.ref l2), some (.ref l3), some (.int l4), some (.int l5), none, none]) (st' := [.int l4, .ref l0, .int s0, .int s1, .int s2, .ref s3]) bf269_223 bf269_225 rfl rfl).trans ?_
  refine (bu (ls'' := [some (.ref l0), some (.ref l1), some (.ref l2), some (.ref l3), some (.int l4), some (.int l5), none, none]) (st' := [.int (nI 4), .int l4, .ref l0, .int s0, .int s1, .int s2, .ref s3]) bf269_225 bf269_226 rfl rfl).trans ?_
  refine (bu (ls'' := [some (.ref l0), some (.ref l1), some (.ref l2), some (.ref l3), some (.int l4), some (.int l5), none, none]) (st' := [.int (l4 + (nI 4)), .ref l0, .int s0, .int s1, .int s2, .ref s3]) bf269_226 bf269_227 rfl rfl).trans ?_
  exact bh bf269_227 bf269_228 rfl (fun _ _ => am_ge_rf w) rfl
theorem bk269_310 {w : am_Wd} {l0 : Nat} {l1 : Nat} {l2 : Nat} {l3 : Nat} {l4 : Int32} {l6 : Int32} {s0 : Int64} : am_run 269 310 [some (.ref l0), some (.ref l1), some (.ref l2), some (.ref l3), some (.int l4), none, some (.int l6), none] [.long s0] w = if (lg_cmp s0 (Int32.toInt64 l6)) = nI 0 then am_run 269 319 [some (.ref l0), some (.ref l1), some (.ref l2), some (.ref l3), some (.int l4), none, none, none] [] w else am_run 269 317 [none, none, none, none, none, none, none, none] [] w := by
  refine (bu (ls'' := [some (.ref l0), some (.ref l1), some (.ref l2), some (.ref l3), some (.int l4), none, none, none]) (st' := [.int l6, .long s0]) bf269_310 bf269_312 rfl rfl).trans ?_
  refine (bu (ls'' := [some (.ref l0), some (.ref l1), some (.ref l2), some (.ref l3), some (.int l4), none, none, none]) (st' := [.long (Int32.toInt64 l6), .long s0]) bf269_312 bf269_313 rfl rfl).trans ?_
  refine (bu (ls'' := [some (.ref l0), some (.ref l1), some (.ref l2), some (.ref l3), some (.int l4), none, none, none]) (st' := [.int (lg_cmp s0 (Int32.toInt64 l6))]) bf269_313 bf269_314 rfl rfl).trans ?_
  exact bifc bf269_314 rfl bf269_319 bf269_317 rfl rfl rfl
theorem bk269_361 {w : am_Wd} {l0 : Nat} {l1 : Nat} {l2 : Nat} {l3 : Nat} {l4 : Int32} {s0 : Int32} : am_run 269 361 [some (.ref l0), some (.ref l1), some (.ref l2), some (.ref l3), some (.int l4), none, none, none] [.int s0] w = (am_ri 0 w l0 (l4 + (nI 1))).bind fun v => am_run 269 370 [some (.ref l0), some (.ref l1), some (.ref l2), some (.ref l3), some (.int l4), some (.int s0), none, none] (.int v :: [.ref l2]) w := by
  refine (bu (ls'' := [some (.ref l0), some (.ref l1), some (.ref l2), some (.ref l3), some (.int l4), some (.int s0), none, none]) (st' := []) bf269_361 bf269_363 rfl rfl).trans ?_
  refine (bu (ls'' := [some (.ref l0), some (.ref l1), some (.ref l2), some (.ref l3), some (.int l4), some (.int s0), none, none]) (st' := [.ref l2]) bf269_363 bf269_364 rfl rfl).trans ?_
  refine (bu (ls'' := [some (.ref l0), some (.ref l1), some (.ref l2), some (.ref l3), some (.int l4), some (.int s0), none, none]) (st' := [.ref l0, .ref l2]) bf269_364 bf269_365 rfl rfl).trans ?_
  refine (bu (ls'' := [some (.ref l0), some (.ref l1), some (.ref l2), some (.ref l3), some (.int l4), some (.int s0), none, none]) (st' := [.int l4, .ref l0, .ref l2]) bf269_365 bf269_367 rfl rfl).trans ?_
  refine (bu (ls'' := [some (.ref l0), some (.ref l1), some (.ref l2), some (.ref l3), some (.int l4), some (.int s0), none, none]) (st' := [.int (nI 1), .int l4, .ref l0, .ref l2]) bf269_367 bf269_368 rfl rfl).trans ?_
  refine (bu (ls'' := [some (.ref l0), some (.ref l1), some (.ref l2), some (.ref l3), some (.int l4), some (.int s0), none, none]) (st' := [.int (l4 + (nI 1)), .ref l0, .ref l2]) bf269_368 bf269_369 rfl rfl).trans ?_
  exact bh bf269_369 bf269_370 rfl (fun _ _ => am_ge_rf w) rfl
theorem bk269_481 {w : am_Wd} {l0 : Nat} {l1 : Nat} {l2 : Nat} {l3 : Nat} {l4 : Int32} {l5 : Int32} {s0 : Int32} {s1 : Nat} : am_run 269 481 [some (.ref l0), some (.ref l1), some (.ref l2), some (.ref l3), some (.int l4), some (.int l5), none, none] [.int s0, .ref s1] w = (am_ri 0 w l0 (l4 + (nI 2))).bind fun v => am_run 269 487 [some (.ref l0), some (.ref l1), some (.ref l2), some (.ref l3), some (.int l4), some (.int l5), none, none] (.int v :: [.int s0, .ref s1]) w := by
  refine (bu (ls'' := [some (.ref l0), some (.ref l1), some (.ref l2), some (.ref l3), some (.int l4), some (.int l5), none, none]) (st' := [.ref l0, .int s0, .ref s1]) bf269_481 bf269_482 rfl rfl).trans ?_
  refine (bu (ls'' := [some (.ref l0), some (.ref l1), some (.ref l2), some (.ref l3), some (.int l4), some (.int l5), none, none]) (st' := [.int l4, .ref l0, .int s0, .ref s1]) bf269_482 bf269_484 rfl rfl).trans ?_
  refine (bu (ls'' := [some (.ref l0), some (.ref l1), some (.ref l2), some (.ref l3), some (.int l4), some (.int l5), none, none]) (st' := [.int (nI 2), .int l4, .ref l0, .int s0, .ref s1]) bf269_484 bf269_485 rfl rfl).trans ?_
  refine (bu (ls'' := [some (.ref l0), some (.ref l1), some (.ref l2), some (.ref l3), some (.int l4), some (.int l5), none, none]) (st' := [.int (l4 + (nI 2)), .ref l0, .int s0, .ref s1]) bf269_485 bf269_486 rfl rfl).trans ?_
  exact bh bf269_486 bf269_487 rfl (fun _ _ => am_ge_rf w) rfl
theorem bk269_591 {w : am_Wd} {l0 : Nat} {l1 : Nat} {l2 : Nat} {l3 : Nat} {l4 : Int32} {l5 : Int32} {s0 : Int32} {s1 : Nat} : am_run 269 591 [some (.ref l0), some (.ref l1), some (.ref l2), some (.ref l3), some (.int l4), some (.int l5), none, none] [.int s0, .ref s1] w = am_run 269 592 [some (.ref l0), some (.ref l1), some (.ref l2), some (.ref l3), some (.int l4), some (.int l5), none, none] [.int (nI 0), .int s0, .ref s1] w := by
  refine (bu (ls'' := [some (.ref l0), some (.ref l1), some (.ref l2), some (.ref l3), some (.int l4), some (.int l5), none, none]) (st' := [.int (nI 0), .int s0, .ref s1]) bf269_591 bf269_592 rfl rfl).trans ?_
  rfl
theorem bk269_587 {w : am_Wd} {l0 : Nat} {l1 : Nat} {l2 : Nat} {l3 : Nat} {l4 : Int32} {l5 : Int32} {s0 : Int32} {s1 : Nat} : am_run 269 587 [some (.ref l0), some (.ref l1), some (.ref l2), some (.ref l3), some (.int l4), some (.int l5), none, none] [.int s0, .ref s1] w = am_run 269 592 [some (.ref l0), some (.ref l1), some (.ref l2), some (.ref l3), some (.int l4), some (.int l5), none, none] [.int (nI 1), .int s0, .ref s1] w := by
  refine (bu (ls'' := [some (.ref l0), some (.ref l1), some (.ref l2), some (.ref l3), some (.int l4), some (.int l5), none, none]) (st' := [.int (nI 1), .int s0, .ref s1]) bf269_587 bf269_588 rfl rfl).trans ?_
  refine (bu (ls'' := [some (.ref l0), some (.ref l1), some (.ref l2), some (.ref l3), some (.int l4), some (.int l5), none, none]) (st' := [.int (nI 1), .int s0, .ref s1]) bf269_588 bf269_592 rfl rfl).trans ?_
  rfl
theorem bk269_675 {w : am_Wd} {l0 : Nat} {l1 : Nat} {l2 : Nat} {l3 : Nat} {l4 : Int32} {s0 : Int32} : am_run 269 675 [some (.ref l0), some (.ref l1), some (.ref l2), some (.ref l3), some (.int l4), none, none, none] [.int s0] w = (am_ri 0 w l0 (l4 + (nI 1))).bind fun v => am_run 269 684 [some (.ref l0), some (.ref l1), some (.ref l2), some (.ref l3), some (.int l4), some (.int s0), none, none] (.int v :: [.ref l2]) w := by
  refine (bu (ls'' := [some (.ref l0), some (.ref l1), some (.ref l2), some (.ref l3), some (.int l4), some (.int s0), none, none]) (st' := []) bf269_675 bf269_677 rfl rfl).trans ?_
  refine (bu (ls'' := [some (.ref l0), some (.ref l1), some (.ref l2), some (.ref l3), some (.int l4), some (.int s0), none, none]) (st' := [.ref l2]) bf269_677 bf269_678 rfl rfl).trans ?_
  refine (bu (ls'' := [some (.ref l0), some (.ref l1), some (.ref l2), some (.ref l3), some (.int l4), some (.int s0), none, none]) (st' := [.ref l0, .ref l2]) bf269_678 bf269_679 rfl rfl).trans ?_
  refine (bu (ls'' := [some (.ref l0), some (.ref l1), some (.ref l2), some (.ref l3), some (.int l4), some (.int s0), none, none]) (st' := [.int l4, .ref l0, .ref l2]) bf269_679 bf269_681 rfl rfl).trans ?_
  refine (bu (ls'' := [some (.ref l0), some (.ref l1), some (.ref l2), some (.ref l3), some (.int l4), some (.int s0), none, none]) (st' := [.int (nI 1), .int l4, .ref l0, .ref l2]) bf269_681 bf269_682 rfl rfl).trans ?_
  refine (bu (ls'' := [some (.ref l0), some (.ref l1), some (.ref l2), some (.ref l3), some (.int l4), some (.int s0), none, none]) (st' := [.int (l4 + (nI 1)), .ref l0, .ref l2]) bf269_682 bf269_683 rfl rfl).trans ?_
  exact bh bf269_683 bf269_684 rfl (fun _ _ => am_ge_rf w) rfl
theorem bk269_796 {w : am_Wd} {l0 : Nat} {l1 : Nat} {l2 : Nat} {l3 : Nat} {l4 : Int32} {l5 : Int32} {s0 : Int32} {s1 : Nat} : am_run 269 796 [some (.ref l0), some (.ref l1), some (.ref l2), some (.ref l3), some (.int l4), some (.int l5), none, none] [.int s0, .ref s1] w = am_run 269 797 [some (.ref l0), some (.ref l1), some (.ref l2), some (.ref l3), some (.int l4), some (.int l5), none, none] [.int (nI 0), .int s0, .ref s1] w := by
  refine (bu (ls'' := [some (.ref l0), some (.ref l1), some (.ref l2), some (.ref l3), some (.int l4), some (.int l5), none, none]) (st' := [.int (nI 0), .int s0, .ref s1]) bf269_796 bf269_797 rfl rfl).trans ?_
  rfl
theorem bk269_792 {w : am_Wd} {l0 : Nat} {l1 : Nat} {l2 : Nat} {l3 : Nat} {l4 : Int32} {l5 : Int32} {s0 : Int32} {s1 : Nat} : am_run 269 792 [some (.ref l0), some (.ref l1), some (.ref l2), some (.ref l3), some (.int l4), some (.int l5), none, none] [.int s0, .ref s1] w = am_run 269 797 [some (.ref l0), some (.ref l1), some (.ref l2), some (.ref l3), some (.int l4), some (.int l5), none, none] [.int (nI 1), .int s0, .ref s1] w := by
  refine (bu (ls'' := [some (.ref l0), some (.ref l1), some (.ref l2), some (.ref l3), some (.int l4), some (.int l5), none, none]) (st' := [.int (nI 1), .int s0, .ref s1]) bf269_792 bf269_793 rfl rfl).trans ?_
  refine (bu (ls'' := [some (.ref l0), some (.ref l1), some (.ref l2), some (.ref l3), some (.int l4), some (.int l5), none, none]) (st' := [.int (nI 1), .int s0, .ref s1]) bf269_793 bf269_797 rfl rfl).trans ?_
  rfl
theorem bk269_881 {w : am_Wd} {l0 : Nat} {l1 : Nat} {l2 : Nat} {l3 : Nat} {l4 : Int32} {l5 : Int32} {s0 : Int32} {s1 : Nat} : am_run 269 881 [some (.ref l0), some (.ref l1), some (.ref l2), some (.ref l3), some (.int l4), some (.int l5), none, none] [.int s0, .ref s1] w = am_run 269 882 [some (.ref l0), some (.ref l1), some (.ref l2), some (.ref l3), some (.int l4), some (.int l5), none, none] [.int (nI 0), .int s0, .ref s1] w := by
  refine (bu (ls'' := [some (.ref l0), some (.ref l1), some (.ref l2), some (.ref l3), some (.int l4), some (.int l5), none, none]) (st' := [.int (nI 0), .int s0, .ref s1]) bf269_881 bf269_882 rfl rfl).trans ?_
  rfl
theorem bk269_877 {w : am_Wd} {l0 : Nat} {l1 : Nat} {l2 : Nat} {l3 : Nat} {l4 : Int32} {l5 : Int32} {s0 : Int32} {s1 : Nat} : am_run 269 877 [some (.ref l0), some (.ref l1), some (.ref l2), some (.ref l3), some (.int l4), some (.int l5), none, none] [.int s0, .ref s1] w = am_run 269 882 [some (.ref l0), some (.ref l1), some (.ref l2), some (.ref l3), some (.int l4), some (.int l5), none, none] [.int (nI 1), .int s0, .ref s1] w := by
  refine (bu (ls'' := [some (.ref l0), some (.ref l1), some (.ref l2), some (.ref l3), some (.int l4), some (.int l5), none, none]) (st' := [.int (nI 1), .int s0, .ref s1]) bf269_877 bf269_878 rfl rfl).trans ?_
  refine (bu (ls'' := [some (.ref l0), some (.ref l1), some (.ref l2), some (.ref l3), some (.int l4), some (.int l5), none, none]) (st' := [.int (nI 1), .int s0, .ref s1]) bf269_878 bf269_882 rfl rfl).trans ?_
  rfl
theorem bk269_967 {w : am_Wd} {l0 : Nat} {l1 : Nat} {l2 : Nat} {l3 : Nat} {l4 : Int32} {l5 : Int32} {l6 : Int32} : am_run 269 967 [some (.ref l0), some (.ref l1), some (.ref l2), some (.ref l3), some (.int l4), some (.int l5), some (.int l6), none] [] w = if ¬ l5 = nI 0 then am_run 269 985 [some (.ref l0), some (.ref l1), some (.ref l2), some (.ref l3), some (.int l4), none, none, none] [] w else am_run 269 972 [some (.ref l0), some (.ref l1), some (.ref l2), some (.ref l3), some (.int l4), none, some (.int l6), none] [] w := by
  refine (bu (ls'' := [some (.ref l0), some (.ref l1), some (.ref l2), some (.ref l3), some (.int l4), none, some (.int l6), none]) (st' := [.int l5]) bf269_967 bf269_969 rfl rfl).trans ?_
  exact bifc bf269_969 rfl bf269_985 bf269_972 rfl rfl rfl
theorem bk269_965 {w : am_Wd}  : am_run 269 965 [none, none, none, none, none, none, none, none] [] w = some (.inl (some (.int (nI 0))), w) := by
  refine (bu (ls'' := [none, none, none, none, none, none, none, none]) (st' := [.int (nI 0)]) bf269_965 bf269_966 rfl rfl).trans ?_
  exact am_e2 bf269_966 rfl (am_ge_rf w)
theorem bk269_1033 {w : am_Wd} {l0 : Nat} {l1 : Nat} {l2 : Nat} {l3 : Nat} {l4 : Int32} {l6 : Int32} {s0 : Int64} : am_run 269 1033 [some (.ref l0), some (.ref l1), some (.ref l2), some (.ref l3), some (.int l4), none, some (.int l6), none] [.long s0] w = if (lg_cmp s0 (Int32.toInt64 l6)) = nI 0 then am_run 269 1042 [some (.ref l0), some (.ref l1), some (.ref l2), some (.ref l3), some (.int l4), none, none, none] [] w else am_run 269 1040 [none, none, none, none, none, none, none, none] [] w := by
  refine (bu (ls'' := [some (.ref l0), some (.ref l1), some (.ref l2), some (.ref l3), some (.int l4), none, none, none]) (st' := [.int l6, .long s0]) bf269_1033 bf269_1035 rfl rfl).trans ?_
  refine (bu (ls'' := [some (.ref l0), some (.ref l1), some (.ref l2), some (.ref l3), some (.int l4), none, none, none]) (st' := [.long (Int32.toInt64 l6), .long s0]) bf269_1035 bf269_1036 rfl rfl).trans ?_
  refine (bu (ls'' := [some (.ref l0), some (.ref l1), some (.ref l2), some (.ref l3), some (.int l4), none, none, none]) (st' := [.int (lg_cmp s0 (Int32.toInt64 l6))]) bf269_1036 bf269_1037 rfl rfl).trans ?_
  exact bifc bf269_1037 rfl bf269_1042 bf269_1040 rfl rfl rfl
theorem bk269_1093 {w : am_Wd} {l0 : Nat} {l1 : Nat} {l2 : Nat} {l3 : Nat} {l4 : Int32} {l5 : Int32} {l6 : Int32} : am_run 269 1093 [some (.ref l0), some (.ref l1), some (.ref l2), some (.ref l3), some (.int l4), some (.int l5), some (.int l6), none] [] w = if ¬ l5 = nI 0 then am_run 269 1111 [some (.ref l0), some (.ref l1), some (.ref l2), some (.ref l3), some (.int l4), none, none, none] [] w else am_run 269 1098 [some (.ref l0), some (.ref l1), some (.ref l2), some (.ref l3), some (.int l4), none, some (.int l6), none] [] w := by
  refine (bu (ls'' := [some (.ref l0), some (.ref l1), some (.ref l2), some (.ref l3), some (.int l4), none, some (.int l6), none]) (st' := [.int l5]) bf269_1093 bf269_1095 rfl rfl).trans ?_
  exact bifc bf269_1095 rfl bf269_1111 bf269_1098 rfl rfl rfl
theorem bk269_1091 {w : am_Wd}  : am_run 269 1091 [none, none, none, none, none, none, none, none] [] w = some (.inl (some (.int (nI 0))), w) := by
  refine (bu (ls'' := [none, none, none, none, none, none, none, none]) (st' := [.int (nI 0)]) bf269_1091 bf269_1092 rfl rfl).trans ?_
  exact am_e2 bf269_1092 rfl (am_ge_rf w)
theorem bk269_1159 {w : am_Wd} {l0 : Nat} {l1 : Nat} {l2 : Nat} {l3 : Nat} {l4 : Int32} {l6 : Int32} {s0 : Int64} : am_run 269 1159 [some (.ref l0), some (.ref l1), some (.ref l2), some (.ref l3), some (.int l4), none, some (.int l6), none] [.long s0] w = if (lg_cmp s0 (Int32.toInt64 l6)) = nI 0 then am_run 269 1168 [some (.ref l0), some (.ref l1), some (.ref l2), some (.ref l3), some (.int l4), none, none, none] [] w else am_run 269 1166 [none, none, none, none, none, none, none, none] [] w := by
  refine (bu (ls'' := [some (.ref l0), some (.ref l1), some (.ref l2), some (.ref l3), some (.int l4), none, none, none]) (st' := [.int l6, .long s0]) bf269_1159 bf269_1161 rfl rfl).trans ?_
  refine (bu (ls'' := [some (.ref l0), some (.ref l1), some (.ref l2), some (.ref l3), some (.int l4), none, none, none]) (st' := [.long (Int32.toInt64 l6), .long s0]) bf269_1161 bf269_1162 rfl rfl).trans ?_
  refine (bu (ls'' := [some (.ref l0), some (.ref l1), some (.ref l2), some (.ref l3), some (.int l4), none, none, none]) (st' := [.int (lg_cmp s0 (Int32.toInt64 l6))]) bf269_1162 bf269_1163 rfl rfl).trans ?_
  exact bifc bf269_1163 rfl bf269_1168 bf269_1166 rfl rfl rfl
theorem bk269_1231 {w : am_Wd} {l0 : Nat} {l1 : Nat} {l2 : Nat} {l3 : Nat} {l4 : Int32} {l5 : Int32} {s0 : Int32} : am_run 269 1231 [some (.ref l0), some (.ref l1), some (.ref l2), some (.ref l3), some (.int l4), some (.int l5), none, none] [.int s0] w = (am_kf w l2 11).bind fun _ => (am_x 266 [.ref l2] w).bind fun r => bct r fun v w' => am_run 269 1237 [some (.ref l0), some (.ref l1), some (.ref l2), some (.ref l3), some (.int l4), some (.int l5), some (.int s0), none] (v.toList ++ []) w' := by
  refine (bu (ls'' := [some (.ref l0), some (.ref l1), some (.ref l2), some (.ref l3), some (.int l4), some (.int l5), some (.int s0), none]) (st' := []) bf269_1231 bf269_1233 rfl rfl).trans ?_
  refine (bu (ls'' := [some (.ref l0), some (.ref l1), some (.ref l2), some (.ref l3), some (.int l4), some (.int l5), some (.int s0), none]) (st' := [.ref l2]) bf269_1233 bf269_1234 rfl rfl).trans ?_
  exact bkV bf269_1234 bf269_1237 rfl (by decide +kernel) (Nat.le_of_ble_eq_true rfl) rfl (bhd rfl)
theorem bk269_1313 {w : am_Wd} {l0 : Nat} {l1 : Nat} {l2 : Nat} {l3 : Nat} {l4 : Int32} {l5 : Int32} {l6 : Int32} : am_run 269 1313 [some (.ref l0), some (.ref l1), some (.ref l2), some (.ref l3), some (.int l4), some (.int l5), some (.int l6), none] [] w = if ¬ l5 = nI 0 then am_run 269 1331 [some (.ref l0), some (.ref l1), some (.ref l2), some (.ref l3), some (.int l4), none, none, none] [] w else am_run 269 1318 [some (.ref l0), some (.ref l1), some (.ref l2), some (.ref l3), some (.int l4), none, some (.int l6), none] [] w := by
  refine (bu (ls'' := [some (.ref l0), some (.ref l1), some (.ref l2), some (.ref l3), some (.int l4), none, some (.int l6), none]) (st' := [.int l5]) bf269_1313 bf269_1315 rfl rfl).trans ?_
  exact bifc bf269_1315 rfl bf269_1331 bf269_1318 rfl rfl rfl
theorem bk269_1311 {w : am_Wd}  : am_run 269 1311 [none, none, none, none, none, none, none, none] [] w = some (.inl (some (.int (nI 0))), w) := by
  refine (bu (ls'' := [none, none, none, none, none, none, none, none]) (st' := [.int (nI 0)]) bf269_1311 bf269_1312 rfl rfl).trans ?_
  exact am_e2 bf269_1312 rfl (am_ge_rf w)
theorem bk269_1379 {w : am_Wd} {l0 : Nat} {l1 : Nat} {l2 : Nat} {l3 : Nat} {l4 : Int32} {l6 : Int32} {s0 : Int64} : am_run 269 1379 [some (.ref l0), some (.ref l1), some (.ref l2), some (.ref l3), some (.int l4), none, some (.int l6), none] [.long s0] w = if (lg_cmp s0 (Int32.toInt64 l6)) = nI 0 then am_run 269 1388 [some (.ref l0), some (.ref l1), some (.ref l2), some (.ref l3), some (.int l4), none, none, none] [] w else am_run 269 1386 [none, none, none, none, none, none, none, none] [] w := by
  refine (bu (ls'' := [some (.ref l0), some (.ref l1), some (.ref l2), some (.ref l3), some (.int l4), none, none, none]) (st' := [.int l6, .long s0]) bf269_1379 bf269_1381 rfl rfl).trans ?_
  refine (bu (ls'' := [some (.ref l0), some (.ref l1), some (.ref l2), some (.ref l3), some (.int l4), none, none, none]) (st' := [.long (Int32.toInt64 l6), .long s0]) bf269_1381 bf269_1382 rfl rfl).trans ?_
  refine (bu (ls'' := [some (.ref l0), some (.ref l1), some (.ref l2), some (.ref l3), some (.int l4), none, none, none]) (st' := [.int (lg_cmp s0 (Int32.toInt64 l6))]) bf269_1382 bf269_1383 rfl rfl).trans ?_
  exact bifc bf269_1383 rfl bf269_1388 bf269_1386 rfl rfl rfl
theorem bk269_1436 {w : am_Wd} {l0 : Nat} {l1 : Nat} {l2 : Nat} {l3 : Nat} {l4 : Int32} {l6 : Nat} {s0 : Nat} : am_run 269 1436 [some (.ref l0), some (.ref l1), some (.ref l2), some (.ref l3), some (.int l4), none, some (.ref l6), none] [.ref s0] w = (am_kf w s0 0).bind fun _ => (am_x 268 [.ref s0, .ref l6] w).bind fun r => bct r fun v w' => am_run 269 1441 [some (.ref l0), some (.ref l1), some (.ref l2), some (.ref l3), some (.int l4), none, none, none] (v.toList ++ []) w' := by
  refine (bu (ls'' := [some (.ref l0), some (.ref l1), some (.ref l2), some (.ref l3), some (.int l4), none, none, none]) (st' := [.ref l6, .ref s0]) bf269_1436 bf269_1438 rfl rfl).trans ?_
  exact bkV bf269_1438 bf269_1441 rfl (by decide +kernel) (Nat.le_of_ble_eq_true rfl) rfl (bhd rfl)
theorem bk269_1496 {w : am_Wd} {l0 : Nat} {l1 : Nat} {l2 : Nat} {l3 : Nat} {l4 : Int32} {l5 : Int32} {s0 : Int32} : am_run 269 1496 [some (.ref l0), some (.ref l1), some (.ref l2), some (.ref l3), some (.int l4), some (.int l5), none, none] [.int s0] w = (am_kf w l2 11).bind fun _ => (am_x 266 [.ref l2] w).bind fun r => bct r fun v w' => am_run 269 1502 [some (.ref l0), some (.ref l1), some (.ref l2), some (.ref l3), some (.int l4), some (.int l5), some (.int s0), none] (v.toList ++ []) w' := by
  refine (bu (ls'' := [some (.ref l0), some (.ref l1), some (.ref l2), some (.ref l3), some (.int l4), some (.int l5), some (.int s0), none]) (st' := []) bf269_1496 bf269_1498 rfl rfl).trans ?_
  refine (bu (ls'' := [some (.ref l0), some (.ref l1), some (.ref l2), some (.ref l3), some (.int l4), some (.int l5), some (.int s0), none]) (st' := [.ref l2]) bf269_1498 bf269_1499 rfl rfl).trans ?_
  exact bkV bf269_1499 bf269_1502 rfl (by decide +kernel) (Nat.le_of_ble_eq_true rfl) rfl (bhd rfl)
theorem bk269_1578 {w : am_Wd} {l0 : Nat} {l1 : Nat} {l2 : Nat} {l3 : Nat} {l4 : Int32} {l5 : Int32} {l6 : Int32} : am_run 269 1578 [some (.ref l0), some (.ref l1), some (.ref l2), some (.ref l3), some (.int l4), some (.int l5), some (.int l6), none] [] w = if ¬ l5 = nI 0 then am_run 269 1603 [some (.ref l0), some (.ref l1), some (.ref l2), some (.ref l3), some (.int l4), none, none, none] [] w else am_run 269 1583 [some (.ref l0), some (.ref l1), some (.ref l2), some (.ref l3), some (.int l4), none, some (.int l6), none] [] w := by
  refine (bu (ls'' := [some (.ref l0), some (.ref l1), some (.ref l2), some (.ref l3), some (.int l4), none, some (.int l6), none]) (st' := [.int l5]) bf269_1578 bf269_1580 rfl rfl).trans ?_
  exact bifc bf269_1580 rfl bf269_1603 bf269_1583 rfl rfl rfl
theorem bk269_1576 {w : am_Wd}  : am_run 269 1576 [none, none, none, none, none, none, none, none] [] w = some (.inl (some (.int (nI 0))), w) := by
  refine (bu (ls'' := [none, none, none, none, none, none, none, none]) (st' := [.int (nI 0)]) bf269_1576 bf269_1577 rfl rfl).trans ?_
  exact am_e2 bf269_1577 rfl (am_ge_rf w)
theorem bk269_1654 {w : am_Wd} {l0 : Nat} {l1 : Nat} {l2 : Nat} {l3 : Nat} {l4 : Int32} {l5 : Int32} {l6 : Int64} : am_run 269 1654 [some (.ref l0), some (.ref l1), some (.ref l2), some (.ref l3), some (.int l4), some (.int l5), some (.long l6), none] [] w = if ¬ l5 = nI 0 then am_run 269 1671 [some (.ref l0), some (.ref l1), some (.ref l2), some (.ref l3), some (.int l4), none, none, none] [] w else am_run 269 1659 [some (.ref l0), some (.ref l1), some (.ref l2), some (.ref l3), some (.int l4), none, some (.long l6), none] [] w := by
  refine (bu (ls'' := [some (.ref l0), some (.ref l1), some (.ref l2), some (.ref l3), some (.int l4), none, some (.long l6), none]) (st' := [.int l5]) bf269_1654 bf269_1656 rfl rfl).trans ?_
  exact bifc bf269_1656 rfl bf269_1671 bf269_1659 rfl rfl rfl
theorem bk269_1652 {w : am_Wd}  : am_run 269 1652 [none, none, none, none, none, none, none, none] [] w = some (.inl (some (.int (nI 0))), w) := by
  refine (bu (ls'' := [none, none, none, none, none, none, none, none]) (st' := [.int (nI 0)]) bf269_1652 bf269_1653 rfl rfl).trans ?_
  exact am_e2 bf269_1653 rfl (am_ge_rf w)
theorem bk269_1721 {w : am_Wd} {l0 : Nat} {l1 : Nat} {l2 : Nat} {l3 : Nat} {l4 : Int32} {l5 : Int32} {s0 : Int32} : am_run 269 1721 [some (.ref l0), some (.ref l1), some (.ref l2), some (.ref l3), some (.int l4), some (.int l5), none, none] [.int s0] w = (am_kf w l2 11).bind fun _ => (am_x 266 [.ref l2] w).bind fun r => bct r fun v w' => am_run 269 1727 [some (.ref l0), some (.ref l1), some (.ref l2), some (.ref l3), some (.int l4), some (.int l5), some (.int s0), none] (v.toList ++ []) w' := by
  refine (bu (ls'' := [some (.ref l0), some (.ref l1), some (.ref l2), some (.ref l3), some (.int l4), some (.int l5), some (.int s0), none]) (st' := []) bf269_1721 bf269_1723 rfl rfl).trans ?_
  refine (bu (ls'' := [some (.ref l0), some (.ref l1), some (.ref l2), some (.ref l3), some (.int l4), some (.int l5), some (.int s0), none]) (st' := [.ref l2]) bf269_1723 bf269_1724 rfl rfl).trans ?_
  exact bkV bf269_1724 bf269_1727 rfl (by decide +kernel) (Nat.le_of_ble_eq_true rfl) rfl (bhd rfl)
theorem bk269_1803 {w : am_Wd} {l0 : Nat} {l1 : Nat} {l2 : Nat} {l3 : Nat} {l4 : Int32} {l5 : Int32} {l6 : Int32} : am_run 269 1803 [some (.ref l0), some (.ref l1), some (.ref l2), some (.ref l3), some (.int l4), some (.int l5), some (.int l6), none] [] w = if ¬ l5 = nI 0 then am_run 269 1821 [some (.ref l0), some (.ref l1), some (.ref l2), some (.ref l3), some (.int l4), none, none, none] [] w else am_run 269 1808 [some (.ref l0), some (.ref l1), some (.ref l2), some (.ref l3), some (.int l4), none, some (.int l6), none] [] w := by
  refine (bu (ls'' := [some (.ref l0), some (.ref l1), some (.ref l2), some (.ref l3), some (.int l4), none, some (.int l6), none]) (st' := [.int l5]) bf269_1803 bf269_1805 rfl rfl).trans ?_
  exact bifc bf269_1805 rfl bf269_1821 bf269_1808 rfl rfl rfl
theorem bk269_1801 {w : am_Wd}  : am_run 269 1801 [none, none, none, none, none, none, none, none] [] w = some (.inl (some (.int (nI 0))), w) := by
  refine (bu (ls'' := [none, none, none, none, none, none, none, none]) (st' := [.int (nI 0)]) bf269_1801 bf269_1802 rfl rfl).trans ?_
  exact am_e2 bf269_1802 rfl (am_ge_rf w)
theorem bk269_1869 {w : am_Wd} {l0 : Nat} {l1 : Nat} {l2 : Nat} {l3 : Nat} {l4 : Int32} {l6 : UInt64} {s0 : UInt64} : am_run 269 1869 [some (.ref l0), some (.ref l1), some (.ref l2), some (.ref l3), some (.int l4), none, some (.double l6), none] [.double s0] w = if (Op.cmpValue (FP.dcmp s0 l6) .l) = nI 0 then am_run 269 1897 [some (.ref l0), some (.ref l1), some (.ref l2), some (.ref l3), some (.int l4), none, none, none] [] w else am_run 269 1875 [some (.ref l0), some (.ref l1), some (.ref l2), some (.ref l3), some (.int l4), none, some (.double l6), none] [] w := by
  refine (bu (ls'' := [some (.ref l0), some (.ref l1), some (.ref l2), some (.ref l3), some (.int l4), none, some (.double l6), none]) (st' := [.double l6, .double s0]) bf269_1869 bf269_1871 rfl rfl).trans ?_
  refine (bu (ls'' := [some (.ref l0), some (.ref l1), some (.ref l2), some (.ref l3), some (.int l4), none, some (.double l6), none]) (st' := [.int (Op.cmpValue (FP.dcmp s0 l6) .l)]) bf269_1871 bf269_1872 rfl rfl).trans ?_
  exact bifc bf269_1872 rfl bf269_1897 bf269_1875 rfl rfl rfl
theorem bk269_1948 {w : am_Wd} {l0 : Nat} {l1 : Nat} {l2 : Nat} {l3 : Nat} {l4 : Int32} {l5 : Int32} {l6 : Int32} : am_run 269 1948 [some (.ref l0), some (.ref l1), some (.ref l2), some (.ref l3), some (.int l4), some (.int l5), some (.int l6), none] [] w = if ¬ l5 = nI 0 then am_run 269 1966 [some (.ref l0), some (.ref l1), some (.ref l2), some (.ref l3), some (.int l4), none, none, none] [] w else am_run 269 1953 [some (.ref l0), some (.ref l1), some (.ref l2), some (.ref l3), some (.int l4), none, some (.int l6), none] [] w := by
  refine (bu (ls'' := [some (.ref l0), some (.ref l1), some (.ref l2), some (.ref l3), some (.int l4), none, some (.int l6), none]) (st' := [.int l5]) bf269_1948 bf269_1950 rfl rfl).trans ?_
  exact bifc bf269_1950 rfl bf269_1966 bf269_1953 rfl rfl rfl
theorem bk269_1946 {w : am_Wd}  : am_run 269 1946 [none, none, none, none, none, none, none, none] [] w = some (.inl (some (.int (nI 0))), w) := by
  refine (bu (ls'' := [none, none, none, none, none, none, none, none]) (st' := [.int (nI 0)]) bf269_1946 bf269_1947 rfl rfl).trans ?_
  exact am_e2 bf269_1947 rfl (am_ge_rf w)
theorem bk269_2014 {w : am_Wd} {l0 : Nat} {l1 : Nat} {l2 : Nat} {l3 : Nat} {l4 : Int32} {l6 : Int32} {s0 : Int64} : am_run 269 2014 [some (.ref l0), some (.ref l1), some (.ref l2), some (.ref l3), some (.int l4), none, some (.int l6), none] [.long s0] w = if (lg_cmp s0 (Int32.toInt64 l6)) = nI 0 then am_run 269 2023 [some (.ref l0), some (.ref l1), some (.ref l2), some (.ref l3), some (.int l4), none, none, none] [] w else am_run 269 2021 [none, none, none, none, none, none, none, none] [] w := by
  refine (bu (ls'' := [some (.ref l0), some (.ref l1), some (.ref l2), some (.ref l3), some (.int l4), none, none, none]) (st' := [.int l6, .long s0]) bf269_2014 bf269_2016 rfl rfl).trans ?_
  refine (bu (ls'' := [some (.ref l0), some (.ref l1), some (.ref l2), some (.ref l3), some (.int l4), none, none, none]) (st' := [.long (Int32.toInt64 l6), .long s0]) bf269_2016 bf269_2017 rfl rfl).trans ?_
  refine (bu (ls'' := [some (.ref l0), some (.ref l1), some (.ref l2), some (.ref l3), some (.int l4), none, none, none]) (st' := [.int (lg_cmp s0 (Int32.toInt64 l6))]) bf269_2017 bf269_2018 rfl rfl).trans ?_
  exact bifc bf269_2018 rfl bf269_2023 bf269_2021 rfl rfl rfl
theorem bk269_2074 {w : am_Wd} {l0 : Nat} {l1 : Nat} {l2 : Nat} {l3 : Nat} {l4 : Int32} {l5 : Int32} {l6 : Int32} : am_run 269 2074 [some (.ref l0), some (.ref l1), some (.ref l2), some (.ref l3), some (.int l4), some (.int l5), some (.int l6), none] [] w = if ¬ l5 = nI 0 then am_run 269 2092 [some (.ref l0), some (.ref l1), some (.ref l2), some (.ref l3), some (.int l4), none, none, none] [] w else am_run 269 2079 [some (.ref l0), some (.ref l1), some (.ref l2), some (.ref l3), some (.int l4), none, some (.int l6), none] [] w := by
  refine (bu (ls'' := [some (.ref l0), some (.ref l1), some (.ref l2), some (.ref l3), some (.int l4), none, some (.int l6), none]) (st' := [.int l5]) bf269_2074 bf269_2076 rfl rfl).trans ?_
  exact bifc bf269_2076 rfl bf269_2092 bf269_2079 rfl rfl rfl
theorem bk269_2072 {w : am_Wd}  : am_run 269 2072 [none, none, none, none, none, none, none, none] [] w = some (.inl (some (.int (nI 0))), w) := by
  refine (bu (ls'' := [none, none, none, none, none, none, none, none]) (st' := [.int (nI 0)]) bf269_2072 bf269_2073 rfl rfl).trans ?_
  exact am_e2 bf269_2073 rfl (am_ge_rf w)
theorem bk269_2143 {w : am_Wd} {l0 : Nat} {l1 : Nat} {l2 : Nat} {l3 : Nat} {l4 : Int32} {l5 : Int32} {l6 : Int32} : am_run 269 2143 [some (.ref l0), some (.ref l1), some (.ref l2), some (.ref l3), some (.int l4), some (.int l5), some (.int l6), none] [] w = if ¬ l5 = nI 0 then am_run 269 2161 [some (.ref l0), some (.ref l1), some (.ref l2), some (.ref l3), some (.int l4), none, none, none] [] w else am_run 269 2148 [some (.ref l0), some (.ref l1), some (.ref l2), some (.ref l3), some (.int l4), none, some (.int l6), none] [] w := by
  refine (bu (ls'' := [some (.ref l0), some (.ref l1), some (.ref l2), some (.ref l3), some (.int l4), none, some (.int l6), none]) (st' := [.int l5]) bf269_2143 bf269_2145 rfl rfl).trans ?_
  exact bifc bf269_2145 rfl bf269_2161 bf269_2148 rfl rfl rfl
theorem bk269_2141 {w : am_Wd}  : am_run 269 2141 [none, none, none, none, none, none, none, none] [] w = some (.inl (some (.int (nI 0))), w) := by
  refine (bu (ls'' := [none, none, none, none, none, none, none, none]) (st' := [.int (nI 0)]) bf269_2141 bf269_2142 rfl rfl).trans ?_
  exact am_e2 bf269_2142 rfl (am_ge_rf w)
theorem bk269_228 {w : am_Wd} {l0 : Nat} {l1 : Nat} {l2 : Nat} {l3 : Nat} {l4 : Int32} {l5 : Int32} {s0 : Int32} {s1 : Int32} {s2 : Int32} {s3 : Int32} {s4 : Nat} : am_run 269 228 [some (.ref l0), some (.ref l1), some (.ref l2), some (.ref l3), some (.int l4), some (.int l5), none, none] [.int s0, .int s1, .int s2, .int s3, .ref s4] w = (am_kf w s4 11).bind fun _ => (am_x 176 [.ref s4, .int s3, .int s2, .int s1, .int s0] w).bind fun r => bct r fun v w' => am_run 269 231 [some (.ref l0), some (.ref l1), some (.ref l2), some (.ref l3), some (.int l4), some (.int l5), none, none] (v.toList ++ []) w' := by
  exact bkV bf269_228 bf269_231 rfl (by decide +kernel) (Nat.le_of_ble_eq_true rfl) rfl (bhd rfl)
theorem bk269_317 {w : am_Wd}  : am_run 269 317 [none, none, none, none, none, none, none, none] [] w = some (.inl (some (.int (nI 0))), w) := by
  refine (bu (ls'' := [none, none, none, none, none, none, none, none]) (st' := [.int (nI 0)]) bf269_317 bf269_318 rfl rfl).trans ?_
  exact am_e2 bf269_318 rfl (am_ge_rf w)
theorem bk269_370 {w : am_Wd} {l0 : Nat} {l1 : Nat} {l2 : Nat} {l3 : Nat} {l4 : Int32} {l5 : Int32} {s0 : Int32} {s1 : Nat} : am_run 269 370 [some (.ref l0), some (.ref l1), some (.ref l2), some (.ref l3), some (.int l4), some (.int l5), none, none] [.int s0, .ref s1] w = (am_ri 0 w l0 (l4 + (nI 2))).bind fun v => am_run 269 376 [some (.ref l0), some (.ref l1), some (.ref l2), some (.ref l3), some (.int l4), some (.int l5), none, none] (.int v :: [.int s0, .ref s1]) w := by
  refine (bu (ls'' := [some (.ref l0), some (.ref l1), some (.ref l2), some (.ref l3), some (.int l4), some (.int l5), none, none]) (st' := [.ref l0, .int s0, .ref s1]) bf269_370 bf269_371 rfl rfl).trans ?_
  refine (bu (ls'' := [some (.ref l0), some (.ref l1), some (.ref l2), some (.ref l3), some (.int l4), some (.int l5), none, none]) (st' := [.int l4, .ref l0, .int s0, .ref s1]) bf269_371 bf269_373 rfl rfl).trans ?_
  refine (bu (ls'' := [some (.ref l0), some (.ref l1), some (.ref l2), some (.ref l3), some (.int l4), some (.int l5), none, none]) (st' := [.int (nI 2), .int l4, .ref l0, .int s0, .ref s1]) bf269_373 bf269_374 rfl rfl).trans ?_
  refine (bu (ls'' := [some (.ref l0), some (.ref l1), some (.ref l2), some (.ref l3), some (.int l4), some (.int l5), none, none]) (st' := [.int (l4 + (nI 2)), .ref l0, .int s0, .ref s1]) bf269_374 bf269_375 rfl rfl).trans ?_
  exact bh bf269_375 bf269_376 rfl (fun _ _ => am_ge_rf w) rfl
theorem bk269_487 {w : am_Wd} {l0 : Nat} {l1 : Nat} {l2 : Nat} {l3 : Nat} {l4 : Int32} {l5 : Int32} {s0 : Int32} {s1 : Int32} {s2 : Nat} : am_run 269 487 [some (.ref l0), some (.ref l1), some (.ref l2), some (.ref l3), some (.int l4), some (.int l5), none, none] [.int s0, .int s1, .ref s2] w = (am_ri 0 w l0 (l4 + (nI 3))).bind fun v => am_run 269 493 [some (.ref l0), some (.ref l1), some (.ref l2), some (.ref l3), some (.int l4), some (.int l5), none, none] (.int v :: [.int s0, .int s1, .ref s2]) w := by
  refine (bu (ls'' := [some (.ref l0), some (.ref l1), some (.ref l2), some (.ref l3), some (.int l4), some (.int l5), none, none]) (st' := [.ref l0, .int s0, .int s1, .ref s2]) bf269_487 bf269_488 rfl rfl).trans ?_
  refine (bu (ls'' := [some (.ref l0), some (.ref l1), some (.ref l2), some (.ref l3), some (.int l4), some (.int l5), none, none]) (st' := [.int l4, .ref l0, .int s0, .int s1, .ref s2]) bf269_488 bf269_490 rfl rfl).trans ?_
  refine (bu (ls'' := [some (.ref l0), some (.ref l1), some (.ref l2), some (.ref l3), some (.int l4), some (.int l5), none, none]) (st' := [.int (nI 3), .int l4, .ref l0, .int s0, .int s1, .ref s2]) bf269_490 bf269_491 rfl rfl).trans ?_
  refine (bu (ls'' := [some (.ref l0), some (.ref l1), some (.ref l2), some (.ref l3), some (.int l4), some (.int l5), none, none]) (st' := [.int (l4 + (nI 3)), .ref l0, .int s0, .int s1, .ref s2]) bf269_491 bf269_492 rfl rfl).trans ?_
  exact bh bf269_492 bf269_493 rfl (fun _ _ => am_ge_rf w) rfl
theorem bk269_592 {w : am_Wd} {l0 : Nat} {l1 : Nat} {l2 : Nat} {l3 : Nat} {l4 : Int32} {l5 : Int32} {s0 : Int32} {s1 : Int32} {s2 : Nat} : am_run 269 592 [some (.ref l0), some (.ref l1), some (.ref l2), some (.ref l3), some (.int l4), some (.int l5), none, none] [.int s0, .int s1, .ref s2] w = (am_kf w s2 11).bind fun _ => (am_x 260 [.ref s2, .int s1, .int s0] w).bind fun r => bct r fun v w' => am_run 269 595 [some (.ref l0), some (.ref l1), some (.ref l2), some (.ref l3), some (.int l4), some (.int l5), none, none] (v.toList ++ []) w' := by
  exact bkV bf269_592 bf269_595 rfl (by decide +kernel) (Nat.le_of_ble_eq_true rfl) rfl (bhd rfl)
theorem bk269_684 {w : am_Wd} {l0 : Nat} {l1 : Nat} {l2 : Nat} {l3 : Nat} {l4 : Int32} {l5 : Int32} {s0 : Int32} {s1 : Nat} : am_run 269 684 [some (.ref l0), some (.ref l1), some (.ref l2), some (.ref l3), some (.int l4), some (.int l5), none, none] [.int s0, .ref s1] w = (am_ri 0 w l0 (l4 + (nI 2))).bind fun v => am_run 269 690 [some (.ref l0), some (.ref l1), some (.ref l2), some (.ref l3), some (.int l4), some (.int l5), none, none] (.int v :: [.int s0, .ref s1]) w := by
  refine (bu (ls'' := [some (.ref l0), some (.ref l1), some (.ref l2), some (.ref l3), some (.int l4), some (.int l5), none, none]) (st' := [.ref l0, .int s0, .ref s1]) bf269_684 bf269_685 rfl rfl).trans ?_
  refine (bu (ls'' := [some (.ref l0), some (.ref l1), some (.ref l2), some (.ref l3), some (.int l4), some (.int l5), none, none]) (st' := [.int l4, .ref l0, .int s0, .ref s1]) bf269_685 bf269_687 rfl rfl).trans ?_
  refine (bu (ls'' := [some (.ref l0), some (.ref l1), some (.ref l2), some (.ref l3), some (.int l4), some (.int l5), none, none]) (st' := [.int (nI 2), .int l4, .ref l0, .int s0, .ref s1]) bf269_687 bf269_688 rfl rfl).trans ?_
  refine (bu (ls'' := [some (.ref l0), some (.ref l1), some (.ref l2), some (.ref l3), some (.int l4), some (.int l5), none, none]) (st' := [.int (l4 + (nI 2)), .ref l0, .int s0, .ref s1]) bf269_688 bf269_689 rfl rfl).trans ?_
  exact bh bf269_689 bf269_690 rfl (fun _ _ => am_ge_rf w) rfl
theorem bk269_797 {w : am_Wd} {l0 : Nat} {l1 : Nat} {l2 : Nat} {l3 : Nat} {l4 : Int32} {l5 : Int32} {s0 : Int32} {s1 : Int32} {s2 : Nat} : am_run 269 797 [some (.ref l0), some (.ref l1), some (.ref l2), some (.ref l3), some (.int l4), some (.int l5), none, none] [.int s0, .int s1, .ref s2] w = (am_kf w s2 11).bind fun _ => (am_x 262 [.ref s2, .int s1, .int s0] w).bind fun r => bct r fun v w' => am_run 269 800 [some (.ref l0), some (.ref l1), some (.ref l2), some (.ref l3), some (.int l4), some (.int l5), none, none] (v.toList ++ []) w' := by
  exact bkV bf269_797 bf269_800 rfl (by decide +kernel) (Nat.le_of_ble_eq_true rfl) rfl (bhd rfl)
theorem bk269_882 {w : am_Wd} {l0 : Nat} {l1 : Nat} {l2 : Nat} {l3 : Nat} {l4 : Int32} {l5 : Int32} {s0 : Int32} {s1 : Int32} {s2 : Nat} : am_run 269 882 [some (.ref l0), some (.ref l1), some (.ref l2), some (.ref l3), some (.int l4), some (.int l5), none, none] [.int s0, .int s1, .ref s2] w = (am_kf w s2 11).bind fun _ => (am_x 263 [.ref s2, .int s1, .int s0] w).bind fun r => bct r fun v w' => am_run 269 885 [some (.ref l0), some (.ref l1), some (.ref l2), some (.ref l3), some (.int l4), some (.int l5), none, none] (v.toList ++ []) w' := by
  exact bkV bf269_882 bf269_885 rfl (by decide +kernel) (Nat.le_of_ble_eq_true rfl) rfl (bhd rfl)
theorem bk269_985 {w : am_Wd} {l0 : Nat} {l1 : Nat} {l2 : Nat} {l3 : Nat} {l4 : Int32} : am_run 269 985 [some (.ref l0), some (.ref l1), some (.ref l2), some (.ref l3), some (.int l4), none, none, none] [] w = am_run 269 2191 [some (.ref l0), some (.ref l1), some (.ref l2), some (.ref l3), some (.int l4), none, none, none] [] w := by
  refine (bu (ls'' := [some (.ref l0), some (.ref l1), some (.ref l2), some (.ref l3), some (.int l4), none, none, none]) (st' := []) bf269_985 bf269_2191 rfl rfl).trans ?_
  rfl
theorem bk269_972 {w : am_Wd} {l0 : Nat} {l1 : Nat} {l2 : Nat} {l3 : Nat} {l4 : Int32} {l6 : Int32} : am_run 269 972 [some (.ref l0), some (.ref l1), some (.ref l2), some (.ref l3), some (.int l4), none, some (.int l6), none] [] w = (am_gf w l3 9 0).bind fun v => am_run 269 976 [some (.ref l0), some (.ref l1), some (.ref l2), some (.ref l3), some (.int l4), none, some (.int l6), none] (v :: []) w := by
  refine (bu (ls'' := [some (.ref l0), some (.ref l1), some (.ref l2), some (.ref l3), some (.int l4), none, some (.int l6), none]) (st' := [.ref l3]) bf269_972 bf269_973 rfl rfl).trans ?_
  exact bh bf269_973 bf269_976 rfl (fun _ _ => am_ge_rf w) rfl
theorem bk269_1040 {w : am_Wd}  : am_run 269 1040 [none, none, none, none, none, none, none, none] [] w = some (.inl (some (.int (nI 0))), w) := by
  refine (bu (ls'' := [none, none, none, none, none, none, none, none]) (st' := [.int (nI 0)]) bf269_1040 bf269_1041 rfl rfl).trans ?_
  exact am_e2 bf269_1041 rfl (am_ge_rf w)
theorem bk269_1111 {w : am_Wd} {l0 : Nat} {l1 : Nat} {l2 : Nat} {l3 : Nat} {l4 : Int32} : am_run 269 1111 [some (.ref l0), some (.ref l1), some (.ref l2), some (.ref l3), some (.int l4), none, none, none] [] w = am_run 269 2191 [some (.ref l0), some (.ref l1), some (.ref l2), some (.ref l3), some (.int l4), none, none, none] [] w := by
  refine (bu (ls'' := [some (.ref l0), some (.ref l1), some (.ref l2), some (.ref l3), some (.int l4), none, none, none]) (st' := []) bf269_1111 bf269_2191 rfl rfl).trans ?_
  rfl
theorem bk269_1098 {w : am_Wd} {l0 : Nat} {l1 : Nat} {l2 : Nat} {l3 : Nat} {l4 : Int32} {l6 : Int32} : am_run 269 1098 [some (.ref l0), some (.ref l1), some (.ref l2), some (.ref l3), some (.int l4), none, some (.int l6), none] [] w = (am_gf w l3 9 0).bind fun v => am_run 269 1102 [some (.ref l0), some (.ref l1), some (.ref l2), some (.ref l3), some (.int l4), none, some (.int l6), none] (v :: []) w := by
  refine (bu (ls'' := [some (.ref l0), some (.ref l1), some (.ref l2), some (.ref l3), some (.int l4), none, some (.int l6), none]) (st' := [.ref l3]) bf269_1098 bf269_1099 rfl rfl).trans ?_
  exact bh bf269_1099 bf269_1102 rfl (fun _ _ => am_ge_rf w) rfl
theorem bk269_1166 {w : am_Wd}  : am_run 269 1166 [none, none, none, none, none, none, none, none] [] w = some (.inl (some (.int (nI 0))), w) := by
  refine (bu (ls'' := [none, none, none, none, none, none, none, none]) (st' := [.int (nI 0)]) bf269_1166 bf269_1167 rfl rfl).trans ?_
  exact am_e2 bf269_1167 rfl (am_ge_rf w)
theorem bk269_1237 {w : am_Wd} {l0 : Nat} {l1 : Nat} {l2 : Nat} {l3 : Nat} {l4 : Int32} {l5 : Int32} {l6 : Int32} {s0 : Int32} : am_run 269 1237 [some (.ref l0), some (.ref l1), some (.ref l2), some (.ref l3), some (.int l4), some (.int l5), some (.int l6), none] [.int s0] w = if s0 = l5 then am_run 269 1244 [some (.ref l0), some (.ref l1), some (.ref l2), some (.ref l3), some (.int l4), some (.int l5), some (.int l6), none] [] w else am_run 269 1242 [none, none, none, none, none, none, none, none] [] w := by
  refine (bu (ls'' := [some (.ref l0), some (.ref l1), some (.ref l2), some (.ref l3), some (.int l4), some (.int l5), some (.int l6), none]) (st' := [.int l5, .int s0]) bf269_1237 bf269_1239 rfl rfl).trans ?_
  exact bic bf269_1239 rfl bf269_1244 bf269_1242 rfl rfl rfl
theorem bk269_1331 {w : am_Wd} {l0 : Nat} {l1 : Nat} {l2 : Nat} {l3 : Nat} {l4 : Int32} : am_run 269 1331 [some (.ref l0), some (.ref l1), some (.ref l2), some (.ref l3), some (.int l4), none, none, none] [] w = am_run 269 2191 [some (.ref l0), some (.ref l1), some (.ref l2), some (.ref l3), some (.int l4), none, none, none] [] w := by
  refine (bu (ls'' := [some (.ref l0), some (.ref l1), some (.ref l2), some (.ref l3), some (.int l4), none, none, none]) (st' := []) bf269_1331 bf269_2191 rfl rfl).trans ?_
  rfl
theorem bk269_1318 {w : am_Wd} {l0 : Nat} {l1 : Nat} {l2 : Nat} {l3 : Nat} {l4 : Int32} {l6 : Int32} : am_run 269 1318 [some (.ref l0), some (.ref l1), some (.ref l2), some (.ref l3), some (.int l4), none, some (.int l6), none] [] w = (am_gf w l3 9 0).bind fun v => am_run 269 1322 [some (.ref l0), some (.ref l1), some (.ref l2), some (.ref l3), some (.int l4), none, some (.int l6), none] (v :: []) w := by
  refine (bu (ls'' := [some (.ref l0), some (.ref l1), some (.ref l2), some (.ref l3), some (.int l4), none, some (.int l6), none]) (st' := [.ref l3]) bf269_1318 bf269_1319 rfl rfl).trans ?_
  exact bh bf269_1319 bf269_1322 rfl (fun _ _ => am_ge_rf w) rfl
theorem bk269_1386 {w : am_Wd}  : am_run 269 1386 [none, none, none, none, none, none, none, none] [] w = some (.inl (some (.int (nI 0))), w) := by
  refine (bu (ls'' := [none, none, none, none, none, none, none, none]) (st' := [.int (nI 0)]) bf269_1386 bf269_1387 rfl rfl).trans ?_
  exact am_e2 bf269_1387 rfl (am_ge_rf w)
theorem bk269_1441 {w : am_Wd} {l0 : Nat} {l1 : Nat} {l2 : Nat} {l3 : Nat} {l4 : Int32} {s0 : Int32} : am_run 269 1441 [some (.ref l0), some (.ref l1), some (.ref l2), some (.ref l3), some (.int l4), none, none, none] [.int s0] w = if ¬ s0 = nI 0 then am_run 269 1446 [some (.ref l0), some (.ref l1), some (.ref l2), some (.ref l3), some (.int l4), none, none, none] [] w else am_run 269 1444 [none, none, none, none, none, none, none, none] [] w := by
  exact bifc bf269_1441 rfl bf269_1446 bf269_1444 rfl rfl rfl
theorem bk269_1502 {w : am_Wd} {l0 : Nat} {l1 : Nat} {l2 : Nat} {l3 : Nat} {l4 : Int32} {l5 : Int32} {l6 : Int32} {s0 : Int32} : am_run 269 1502 [some (.ref l0), some (.ref l1), some (.ref l2), some (.ref l3), some (.int l4), some (.int l5), some (.int l6), none] [.int s0] w = if s0 = l5 then am_run 269 1509 [some (.ref l0), some (.ref l1), some (.ref l2), some (.ref l3), some (.int l4), some (.int l5), some (.int l6), none] [] w else am_run 269 1507 [none, none, none, none, none, none, none, none] [] w := by
  refine (bu (ls'' := [some (.ref l0), some (.ref l1), some (.ref l2), some (.ref l3), some (.int l4), some (.int l5), some (.int l6), none]) (st' := [.int l5, .int s0]) bf269_1502 bf269_1504 rfl rfl).trans ?_
  exact bic bf269_1504 rfl bf269_1509 bf269_1507 rfl rfl rfl
theorem bk269_1603 {w : am_Wd} {l0 : Nat} {l1 : Nat} {l2 : Nat} {l3 : Nat} {l4 : Int32} : am_run 269 1603 [some (.ref l0), some (.ref l1), some (.ref l2), some (.ref l3), some (.int l4), none, none, none] [] w = am_run 269 2191 [some (.ref l0), some (.ref l1), some (.ref l2), some (.ref l3), some (.int l4), none, none, none] [] w := by
  refine (bu (ls'' := [some (.ref l0), some (.ref l1), some (.ref l2), some (.ref l3), some (.int l4), none, none, none]) (st' := []) bf269_1603 bf269_2191 rfl rfl).trans ?_
  rfl
theorem bk269_1583 {w : am_Wd} {l0 : Nat} {l1 : Nat} {l2 : Nat} {l3 : Nat} {l4 : Int32} {l6 : Int32} : am_run 269 1583 [some (.ref l0), some (.ref l1), some (.ref l2), some (.ref l3), some (.int l4), none, some (.int l6), none] [] w = (am_gf w l3 9 0).bind fun v => am_run 269 1587 [some (.ref l0), some (.ref l1), some (.ref l2), some (.ref l3), some (.int l4), none, some (.int l6), none] (v :: []) w := by
  refine (bu (ls'' := [some (.ref l0), some (.ref l1), some (.ref l2), some (.ref l3), some (.int l4), none, some (.int l6), none]) (st' := [.ref l3]) bf269_1583 bf269_1584 rfl rfl).trans ?_
  exact bh bf269_1584 bf269_1587 rfl (fun _ _ => am_ge_rf w) rfl
theorem bk269_1671 {w : am_Wd} {l0 : Nat} {l1 : Nat} {l2 : Nat} {l3 : Nat} {l4 : Int32} : am_run 269 1671 [some (.ref l0), some (.ref l1), some (.ref l2), some (.ref l3), some (.int l4), none, none, none] [] w = am_run 269 2191 [some (.ref l0), some (.ref l1), some (.ref l2), some (.ref l3), some (.int l4), none, none, none] [] w := by
  refine (bu (ls'' := [some (.ref l0), some (.ref l1), some (.ref l2), some (.ref l3), some (.int l4), none, none, none]) (st' := []) bf269_1671 bf269_2191 rfl rfl).trans ?_
  rfl
theorem bk269_1659 {w : am_Wd} {l0 : Nat} {l1 : Nat} {l2 : Nat} {l3 : Nat} {l4 : Int32} {l6 : Int64} : am_run 269 1659 [some (.ref l0), some (.ref l1), some (.ref l2), some (.ref l3), some (.int l4), none, some (.long l6), none] [] w = (am_gf w l3 9 0).bind fun v => am_run 269 1663 [some (.ref l0), some (.ref l1), some (.ref l2), some (.ref l3), some (.int l4), none, some (.long l6), none] (v :: []) w := by
  refine (bu (ls'' := [some (.ref l0), some (.ref l1), some (.ref l2), some (.ref l3), some (.int l4), none, some (.long l6), none]) (st' := [.ref l3]) bf269_1659 bf269_1660 rfl rfl).trans ?_
  exact bh bf269_1660 bf269_1663 rfl (fun _ _ => am_ge_rf w) rfl
theorem bk269_1727 {w : am_Wd} {l0 : Nat} {l1 : Nat} {l2 : Nat} {l3 : Nat} {l4 : Int32} {l5 : Int32} {l6 : Int32} {s0 : Int32} : am_run 269 1727 [some (.ref l0), some (.ref l1), some (.ref l2), some (.ref l3), some (.int l4), some (.int l5), some (.int l6), none] [.int s0] w = if s0 = l5 then am_run 269 1734 [some (.ref l0), some (.ref l1), some (.ref l2), some (.ref l3), some (.int l4), some (.int l5), some (.int l6), none] [] w else am_run 269 1732 [none, none, none, none, none, none, none, none] [] w := by
  refine (bu (ls'' := [some (.ref l0), some (.ref l1), some (.ref l2), some (.ref l3), some (.int l4), some (.int l5), some (.int l6), none]) (st' := [.int l5, .int s0]) bf269_1727 bf269_1729 rfl rfl).trans ?_
  exact bic bf269_1729 rfl bf269_1734 bf269_1732 rfl rfl rfl
theorem bk269_1821 {w : am_Wd} {l0 : Nat} {l1 : Nat} {l2 : Nat} {l3 : Nat} {l4 : Int32} : am_run 269 1821 [some (.ref l0), some (.ref l1), some (.ref l2), some (.ref l3), some (.int l4), none, none, none] [] w = am_run 269 2191 [some (.ref l0), some (.ref l1), some (.ref l2), some (.ref l3), some (.int l4), none, none, none] [] w := by
  refine (bu (ls'' := [some (.ref l0), some (.ref l1), some (.ref l2), some (.ref l3), some (.int l4), none, none, none]) (st' := []) bf269_1821 bf269_2191 rfl rfl).trans ?_
  rfl
theorem bk269_1808 {w : am_Wd} {l0 : Nat} {l1 : Nat} {l2 : Nat} {l3 : Nat} {l4 : Int32} {l6 : Int32} : am_run 269 1808 [some (.ref l0), some (.ref l1), some (.ref l2), some (.ref l3), some (.int l4), none, some (.int l6), none] [] w = (am_gf w l3 9 0).bind fun v => am_run 269 1812 [some (.ref l0), some (.ref l1), some (.ref l2), some (.ref l3), some (.int l4), none, some (.int l6), none] (v :: []) w := by
  refine (bu (ls'' := [some (.ref l0), some (.ref l1), some (.ref l2), some (.ref l3), some (.int l4), none, some (.int l6), none]) (st' := [.ref l3]) bf269_1808 bf269_1809 rfl rfl).trans ?_
  exact bh bf269_1809 bf269_1812 rfl (fun _ _ => am_ge_rf w) rfl
theorem bk269_1875 {w : am_Wd} {l0 : Nat} {l1 : Nat} {l2 : Nat} {l3 : Nat} {l4 : Int32} {l6 : UInt64} : am_run 269 1875 [some (.ref l0), some (.ref l1), some (.ref l2), some (.ref l3), some (.int l4), none, some (.double l6), none] [] w = (am_gf w l3 9 1).bind fun v => am_run 269 1879 [some (.ref l0), some (.ref l1), some (.ref l2), some (.ref l3), some (.int l4), none, some (.double l6), none] (v :: []) w := by
  refine (bu (ls'' := [some (.ref l0), some (.ref l1), some (.ref l2), some (.ref l3), some (.int l4), none, some (.double l6), none]) (st' := [.ref l3]) bf269_1875 bf269_1876 rfl rfl).trans ?_
  exact bh bf269_1876 bf269_1879 rfl (fun _ _ => am_ge_rf w) rfl
theorem bk269_1966 {w : am_Wd} {l0 : Nat} {l1 : Nat} {l2 : Nat} {l3 : Nat} {l4 : Int32} : am_run 269 1966 [some (.ref l0), some (.ref l1), some (.ref l2), some (.ref l3), some (.int l4), none, none, none] [] w = am_run 269 2191 [some (.ref l0), some (.ref l1), some (.ref l2), some (.ref l3), some (.int l4), none, none, none] [] w := by
  refine (bu (ls'' := [some (.ref l0), some (.ref l1), some (.ref l2), some (.ref l3), some (.int l4), none, none, none]) (st' := []) bf269_1966 bf269_2191 rfl rfl).trans ?_
  rfl
theorem bk269_1953 {w : am_Wd} {l0 : Nat} {l1 : Nat} {l2 : Nat} {l3 : Nat} {l4 : Int32} {l6 : Int32} : am_run 269 1953 [some (.ref l0), some (.ref l1), some (.ref l2), some (.ref l3), some (.int l4), none, some (.int l6), none] [] w = (am_gf w l3 9 0).bind fun v => am_run 269 1957 [some (.ref l0), some (.ref l1), some (.ref l2), some (.ref l3), some (.int l4), none, some (.int l6), none] (v :: []) w := by
  refine (bu (ls'' := [some (.ref l0), some (.ref l1), some (.ref l2), some (.ref l3), some (.int l4), none, some (.int l6), none]) (st' := [.ref l3]) bf269_1953 bf269_1954 rfl rfl).trans ?_
  exact bh bf269_1954 bf269_1957 rfl (fun _ _ => am_ge_rf w) rfl
theorem bk269_2021 {w : am_Wd}  : am_run 269 2021 [none, none, none, none, none, none, none, none] [] w = some (.inl (some (.int (nI 0))), w) := by
  refine (bu (ls'' := [none, none, none, none, none, none, none, none]) (st' := [.int (nI 0)]) bf269_2021 bf269_2022 rfl rfl).trans ?_
  exact am_e2 bf269_2022 rfl (am_ge_rf w)
theorem bk269_2092 {w : am_Wd} {l0 : Nat} {l1 : Nat} {l2 : Nat} {l3 : Nat} {l4 : Int32} : am_run 269 2092 [some (.ref l0), some (.ref l1), some (.ref l2), some (.ref l3), some (.int l4), none, none, none] [] w = am_run 269 2191 [some (.ref l0), some (.ref l1), some (.ref l2), some (.ref l3), some (.int l4), none, none, none] [] w := by
  refine (bu (ls'' := [some (.ref l0), some (.ref l1), some (.ref l2), some (.ref l3), some (.int l4), none, none, none]) (st' := []) bf269_2092 bf269_2191 rfl rfl).trans ?_
  rfl
theorem bk269_2079 {w : am_Wd} {l0 : Nat} {l1 : Nat} {l2 : Nat} {l3 : Nat} {l4 : Int32} {l6 : Int32} : am_run 269 2079 [some (.ref l0), some (.ref l1), some (.ref l2), some (.ref l3), some (.int l4), none, some (.int l6), none] [] w = (am_gf w l3 9 0).bind fun v => am_run 269 2083 [some (.ref l0), some (.ref l1), some (.ref l2), some (.ref l3), some (.int l4), none, some (.int l6), none] (v :: []) w := by
  refine (bu (ls'' := [some (.ref l0), some (.ref l1), some (.ref l2), some (.ref l3), some (.int l4), none, some (.int l6), none]) (st' := [.ref l3]) bf269_2079 bf269_2080 rfl rfl).trans ?_
  exact bh bf269_2080 bf269_2083 rfl (fun _ _ => am_ge_rf w) rfl
theorem bk269_2161 {w : am_Wd} {l0 : Nat} {l1 : Nat} {l2 : Nat} {l3 : Nat} {l4 : Int32} : am_run 269 2161 [some (.ref l0), some (.ref l1), some (.ref l2), some (.ref l3), some (.int l4), none, none, none] [] w = am_run 269 2191 [some (.ref l0), some (.ref l1), some (.ref l2), some (.ref l3), some (.int l4), none, none, none] [] w := by
  refine (bu (ls'' := [some (.ref l0), some (.ref l1), some (.ref l2), some (.ref l3), some (.int l4), none, none, none]) (st' := []) bf269_2161 bf269_2191 rfl rfl).trans ?_
  rfl
theorem bk269_2148 {w : am_Wd} {l0 : Nat} {l1 : Nat} {l2 : Nat} {l3 : Nat} {l4 : Int32} {l6 : Int32} : am_run 269 2148 [some (.ref l0), some (.ref l1), some (.ref l2), some (.ref l3), some (.int l4), none, some (.int l6), none] [] w = (am_gf w l3 9 0).bind fun v => am_run 269 2152 [some (.ref l0), some (.ref l1), some (.ref l2), some (.ref l3), some (.int l4), none, some (.int l6), none] (v :: []) w := by
  refine (bu (ls'' := [some (.ref l0), some (.ref l1), some (.ref l2), some (.ref l3), some (.int l4), none, some (.int l6), none]) (st' := [.ref l3]) bf269_2148 bf269_2149 rfl rfl).trans ?_
  exact bh bf269_2149 bf269_2152 rfl (fun _ _ => am_ge_rf w) rfl
theorem bk269_231 {w : am_Wd} {l0 : Nat} {l1 : Nat} {l2 : Nat} {l3 : Nat} {l4 : Int32} {l5 : Int32} {s0 : Int32} : am_run 269 231 [some (.ref l0), some (.ref l1), some (.ref l2), some (.ref l3), some (.int l4), some (.int l5), none, none] [.int s0] w = (am_kf w l2 11).bind fun _ => (am_x 266 [.ref l2] w).bind fun r => bct r fun v w' => am_run 269 237 [some (.ref l0), some (.ref l1), some (.ref l2), some (.ref l3), some (.int l4), some (.int l5), some (.int s0), none] (v.toList ++ []) w' := by
  refine (bu (ls'' := [some (.ref l0), some (.ref l1), some (.ref l2), some (.ref l3), some (.int l4), some (.int l5), some (.int s0), none]) (st' := []) bf269_231 bf269_233 rfl rfl).trans ?_
  refine (bu (ls'' := [some (.ref l0), some (.ref l1), some (.ref l2), some (.ref l3), some (.int l4), some (.int l5), some (.int s0), none]) (st' := [.ref l2]) bf269_233 bf269_234 rfl rfl).trans ?_
  exact bkV bf269_234 bf269_237 rfl (by decide +kernel) (Nat.le_of_ble_eq_true rfl) rfl (bhd rfl)
theorem bk269_376 {w : am_Wd} {l0 : Nat} {l1 : Nat} {l2 : Nat} {l3 : Nat} {l4 : Int32} {l5 : Int32} {s0 : Int32} {s1 : Int32} {s2 : Nat} : am_run 269 376 [some (.ref l0), some (.ref l1), some (.ref l2), some (.ref l3), some (.int l4), some (.int l5), none, none] [.int s0, .int s1, .ref s2] w = if s0 = nI 0 then am_run 269 383 [some (.ref l0), some (.ref l1), some (.ref l2), some (.ref l3), some (.int l4), some (.int l5), none, none] [.int s1, .ref s2] w else am_run 269 379 [some (.ref l0), some (.ref l1), some (.ref l2), some (.ref l3), some (.int l4), some (.int l5), none, none] [.int s1, .ref s2] w := by
  exact bifc bf269_376 rfl bf269_383 bf269_379 rfl rfl rfl
theorem bk269_493 {w : am_Wd} {l0 : Nat} {l1 : Nat} {l2 : Nat} {l3 : Nat} {l4 : Int32} {l5 : Int32} {s0 : Int32} {s1 : Int32} {s2 : Int32} {s3 : Nat} : am_run 269 493 [some (.ref l0), some (.ref l1), some (.ref l2), some (.ref l3), some (.int l4), some (.int l5), none, none] [.int s0, .int s1, .int s2, .ref s3] w = (am_ri 0 w l0 (l4 + (nI 4))).bind fun v => am_run 269 499 [some (.ref l0), some (.ref l1), some (.ref l2), some (.ref l3), some (.int l4), some (.int l5), none, none] (.int v :: [.int s0, .int s1, .int s2, .ref s3]) w := by
  refine (bu (ls'' := [some (.ref l0), some (.ref l1), some (.ref l2), some (.ref l3), some (.int l4), some (.int l5), none, none]) (st' := [.ref l0, .int s0, .int s1, .int s2, .ref s3]) bf269_493 bf269_494 rfl rfl).trans ?_
  refine (bu (ls'' := [some (.ref l0), some (.ref l1), some (.ref l2), some (.ref l3), some (.int l4), some (.int l5), none, none]) (st' := [.int l4, .ref l0, .int s0, .int s1, .int s2, .ref s3]) bf269_494 bf269_496 rfl rfl).trans ?_
  refine (bu (ls'' := [some (.ref l0), some (.ref l1), some (.ref l2), some (.ref l3), some (.int l4), some (.int l5), none, none]) (st' := [.int (nI 4), .int l4, .ref l0, .int s0, .int s1, .int s2, .ref s3]) bf269_496 bf269_497 rfl rfl).trans ?_
  refine (bu (ls'' := [some (.ref l0), some (.ref l1), some (.ref l2), some (.ref l3), some (.int l4), some (.int l5), none, none]) (st' := [.int (l4 + (nI 4)), .ref l0, .int s0, .int s1, .int s2, .ref s3]) bf269_497 bf269_498 rfl rfl).trans ?_
  exact bh bf269_498 bf269_499 rfl (fun _ _ => am_ge_rf w) rfl
theorem bk269_595 {w : am_Wd} {l0 : Nat} {l1 : Nat} {l2 : Nat} {l3 : Nat} {l4 : Int32} {l5 : Int32} {s0 : Int32} : am_run 269 595 [some (.ref l0), some (.ref l1), some (.ref l2), some (.ref l3), some (.int l4), some (.int l5), none, none] [.int s0] w = (am_kf w l2 11).bind fun _ => (am_x 266 [.ref l2] w).bind fun r => bct r fun v w' => am_run 269 601 [some (.ref l0), some (.ref l1), some (.ref l2), some (.ref l3), some (.int l4), some (.int l5), some (.int s0), none] (v.toList ++ []) w' := by
  refine (bu (ls'' := [some (.ref l0), some (.ref l1), some (.ref l2), some (.ref l3), some (.int l4), some (.int l5), some (.int s0), none]) (st' := []) bf269_595 bf269_597 rfl rfl).trans ?_
  refine (bu (ls'' := [some (.ref l0), some (.ref l1), some (.ref l2), some (.ref l3), some (.int l4), some (.int l5), some (.int s0), none]) (st' := [.ref l2]) bf269_597 bf269_598 rfl rfl).trans ?_
  exact bkV bf269_598 bf269_601 rfl (by decide +kernel) (Nat.le_of_ble_eq_true rfl) rfl (bhd rfl)
theorem bk269_690 {w : am_Wd} {l0 : Nat} {l1 : Nat} {l2 : Nat} {l3 : Nat} {l4 : Int32} {l5 : Int32} {s0 : Int32} {s1 : Int32} {s2 : Nat} : am_run 269 690 [some (.ref l0), some (.ref l1), some (.ref l2), some (.ref l3), some (.int l4), some (.int l5), none, none] [.int s0, .int s1, .ref s2] w = if s0 = nI 0 then am_run 269 697 [some (.ref l0), some (.ref l1), some (.ref l2), some (.ref l3), some (.int l4), some (.int l5), none, none] [.int s1, .ref s2] w else am_run 269 693 [some (.ref l0), some (.ref l1), some (.ref l2), some (.ref l3), some (.int l4), some (.int l5), none, none] [.int s1, .ref s2] w := by
  exact bifc bf269_690 rfl bf269_697 bf269_693 rfl rfl rfl
theorem bk269_800 {w : am_Wd} {l0 : Nat} {l1 : Nat} {l2 : Nat} {l3 : Nat} {l4 : Int32} {l5 : Int32} {s0 : Int32} : am_run 269 800 [some (.ref l0), some (.ref l1), some (.ref l2), some (.ref l3), some (.int l4), some (.int l5), none, none] [.int s0] w = (am_kf w l2 11).bind fun _ => (am_x 266 [.ref l2] w).bind fun r => bct r fun v w' => am_run 269 806 [some (.ref l0), some (.ref l1), some (.ref l2), some (.ref l3), some (.int l4), some (.int l5), some (.int s0), none] (v.toList ++ []) w' := by
  refine (bu (ls'' := [some (.ref l0), some (.ref l1), some (.ref l2), some (.ref l3), some (.int l4), some (.int l5), some (.int s0), none]) (st' := []) bf269_800 bf269_802 rfl rfl).trans ?_
  refine (bu (ls'' := [some (.ref l0), some (.ref l1), some (.ref l2), some (.ref l3), some (.int l4), some (.int l5), some (.int s0), none]) (st' := [.ref l2]) bf269_802 bf269_803 rfl rfl).trans ?_
  exact bkV bf269_803 bf269_806 rfl (by decide +kernel) (Nat.le_of_ble_eq_true rfl) rfl (bhd rfl)
theorem bk269_885 {w : am_Wd} {l0 : Nat} {l1 : Nat} {l2 : Nat} {l3 : Nat} {l4 : Int32} {l5 : Int32} {s0 : Int32} : am_run 269 885 [some (.ref l0), some (.ref l1), some (.ref l2), some (.ref l3), some (.int l4), some (.int l5), none, none] [.int s0] w = (am_kf w l2 11).bind fun _ => (am_x 266 [.ref l2] w).bind fun r => bct r fun v w' => am_run 269 891 [some (.ref l0), some (.ref l1), some (.ref l2), some (.ref l3), some (.int l4), some (.int l5), some (.int s0), none] (v.toList ++ []) w' := by
  refine (bu (ls'' := [some (.ref l0), some (.ref l1), some (.ref l2), some (.ref l3), some (.int l4), some (.int l5), some (.int s0), none]) (st' := []) bf269_885 bf269_887 rfl rfl).trans ?_
  refine (bu (ls'' := [some (.ref l0), some (.ref l1), some (.ref l2), some (.ref l3), some (.int l4), some (.int l5), some (.int s0), none]) (st' := [.ref l2]) bf269_887 bf269_888 rfl rfl).trans ?_
  exact bkV bf269_888 bf269_891 rfl (by decide +kernel) (Nat.le_of_ble_eq_true rfl) rfl (bhd rfl)
theorem bk269_976 {w : am_Wd} {l0 : Nat} {l1 : Nat} {l2 : Nat} {l3 : Nat} {l4 : Int32} {l6 : Int32} {s0 : Int64} : am_run 269 976 [some (.ref l0), some (.ref l1), some (.ref l2), some (.ref l3), some (.int l4), none, some (.int l6), none] [.long s0] w = if (lg_cmp s0 (Int32.toInt64 l6)) = nI 0 then am_run 269 985 [some (.ref l0), some (.ref l1), some (.ref l2), some (.ref l3), some (.int l4), none, none, none] [] w else am_run 269 983 [none, none, none, none, none, none, none, none] [] w := by
  refine (bu (ls'' := [some (.ref l0), some (.ref l1), some (.ref l2), some (.ref l3), some (.int l4), none, none, none]) (st' := [.int l6, .long s0]) bf269_976 bf269_978 rfl rfl).trans ?_
  refine (bu (ls'' := [some (.ref l0), some (.ref l1), some (.ref l2), some (.ref l3), some (.int l4), none, none, none]) (st' := [.long (Int32.toInt64 l6), .long s0]) bf269_978 bf269_979 rfl rfl).trans ?_
  refine (bu (ls'' := [some (.ref l0), some (.ref l1), some (.ref l2), some (.ref l3), some (.int l4), none, none, none]) (st' := [.int (lg_cmp s0 (Int32.toInt64 l6))]) bf269_979 bf269_980 rfl rfl).trans ?_
  exact bifc bf269_980 rfl bf269_985 bf269_983 rfl rfl rfl
theorem bk269_1102 {w : am_Wd} {l0 : Nat} {l1 : Nat} {l2 : Nat} {l3 : Nat} {l4 : Int32} {l6 : Int32} {s0 : Int64} : am_run 269 1102 [some (.ref l0), some (.ref l1), some (.ref l2), some (.ref l3), some (.int l4), none, some (.int l6), none] [.long s0] w = if (lg_cmp s0 (Int32.toInt64 l6)) = nI 0 then am_run 269 1111 [some (.ref l0), some (.ref l1), some (.ref l2), some (.ref l3), some (.int l4), none, none, none] [] w else am_run 269 1109 [none, none, none, none, none, none, none, none] [] w := by
  refine (bu (ls'' := [some (.ref l0), some (.ref l1), some (.ref l2), some (.ref l3), some (.int l4), none, none, none]) (st' := [.int l6, .long s0]) bf269_1102 bf269_1104 rfl rfl).trans ?_
  refine (bu (ls'' := [some (.ref l0), some (.ref l1), some (.ref l2), some (.ref l3), some (.int l4), none, none, none]) (st' := [.long (Int32.toInt64 l6), .long s0]) bf269_1104 bf269_1105 rfl rfl).trans ?_
  refine (bu (ls'' := [some (.ref l0), some (.ref l1), some (.ref l2), some (.ref l3), some (.int l4), none, none, none]) (st' := [.int (lg_cmp s0 (Int32.toInt64 l6))]) bf269_1105 bf269_1106 rfl rfl).trans ?_
  exact bifc bf269_1106 rfl bf269_1111 bf269_1109 rfl rfl rfl
theorem bk269_1244 {w : am_Wd} {l0 : Nat} {l1 : Nat} {l2 : Nat} {l3 : Nat} {l4 : Int32} {l5 : Int32} {l6 : Int32} : am_run 269 1244 [some (.ref l0), some (.ref l1), some (.ref l2), some (.ref l3), some (.int l4), some (.int l5), some (.int l6), none] [] w = if ¬ l5 = nI 0 then am_run 269 1262 [some (.ref l0), some (.ref l1), some (.ref l2), some (.ref l3), some (.int l4), none, none, none] [] w else am_run 269 1249 [some (.ref l0), some (.ref l1), some (.ref l2), some (.ref l3), some (.int l4), none, some (.int l6), none] [] w := by
  refine (bu (ls'' := [some (.ref l0), some (.ref l1), some (.ref l2), some (.ref l3), some (.int l4), none, some (.int l6), none]) (st' := [.int l5]) bf269_1244 bf269_1246 rfl rfl).trans ?_
  exact bifc bf269_1246 rfl bf269_1262 bf269_1249 rfl rfl rfl
theorem bk269_1242 {w : am_Wd}  : am_run 269 1242 [none, none, none, none, none, none, none, none] [] w = some (.inl (some (.int (nI 0))), w) := by
  refine (bu (ls'' := [none, none, none, none, none, none, none, none]) (st' := [.int (nI 0)]) bf269_1242 bf269_1243 rfl rfl).trans ?_
  exact am_e2 bf269_1243 rfl (am_ge_rf w)
theorem bk269_1322 {w : am_Wd} {l0 : Nat} {l1 : Nat} {l2 : Nat} {l3 : Nat} {l4 : Int32} {l6 : Int32} {s0 : Int64} : am_run 269 1322 [some (.ref l0), some (.ref l1), some (.ref l2), some (.ref l3), some (.int l4), none, some (.int l6), none] [.long s0] w = if (lg_cmp s0 (Int32.toInt64 l6)) = nI 0 then am_run 269 1331 [some (.ref l0), some (.ref l1), some (.ref l2), some (.ref l3), some (.int l4), none, none, none] [] w else am_run 269 1329 [none, none, none, none, none, none, none, none] [] w := by
  refine (bu (ls'' := [some (.ref l0), some (.ref l1), some (.ref l2), some (.ref l3), some (.int l4), none, none, none]) (st' := [.int l6, .long s0]) bf269_1322 bf269_1324 rfl rfl).trans ?_
  refine (bu (ls'' := [some (.ref l0), some (.ref l1), some (.ref l2), some (.ref l3), some (.int l4), none, none, none]) (st' := [.long (Int32.toInt64 l6), .long s0]) bf269_1324 bf269_1325 rfl rfl).trans ?_
  refine (bu (ls'' := [some (.ref l0), some (.ref l1), some (.ref l2), some (.ref l3), some (.int l4), none, none, none]) (st' := [.int (lg_cmp s0 (Int32.toInt64 l6))]) bf269_1325 bf269_1326 rfl rfl).trans ?_
  exact bifc bf269_1326 rfl bf269_1331 bf269_1329 rfl rfl rfl
theorem bk269_1444 {w : am_Wd}  : am_run 269 1444 [none, none, none, none, none, none, none, none] [] w = some (.inl (some (.int (nI 0))), w) := by
  refine (bu (ls'' := [none, none, none, none, none, none, none, none]) (st' := [.int (nI 0)]) bf269_1444 bf269_1445 rfl rfl).trans ?_
  exact am_e2 bf269_1445 rfl (am_ge_rf w)
theorem bk269_1509 {w : am_Wd} {l0 : Nat} {l1 : Nat} {l2 : Nat} {l3 : Nat} {l4 : Int32} {l5 : Int32} {l6 : Int32} : am_run 269 1509 [some (.ref l0), some (.ref l1), some (.ref l2), some (.ref l3), some (.int l4), some (.int l5), some (.int l6), none] [] w = if ¬ l5 = nI 0 then am_run 269 1527 [some (.ref l0), some (.ref l1), some (.ref l2), some (.ref l3), some (.int l4), none, none, none] [] w else am_run 269 1514 [some (.ref l0), some (.ref l1), some (.ref l2), some (.ref l3), some (.int l4), none, some (.int l6), none] [] w := by
  refine (bu (ls'' := [some (.ref l0), some (.ref l1), some (.ref l2), some (.ref l3), some (.int l4), none, some (.int l6), none]) (st' := [.int l5]) bf269_1509 bf269_1511 rfl rfl).trans ?_
  exact bifc bf269_1511 rfl bf269_1527 bf269_1514 rfl rfl rfl
theorem bk269_1507 {w : am_Wd}  : am_run 269 1507 [none, none, none, none, none, none, none, none] [] w = some (.inl (some (.int (nI 0))), w) := by
  refine (bu (ls'' := [none, none, none, none, none, none, none, none]) (st' := [.int (nI 0)]) bf269_1507 bf269_1508 rfl rfl).trans ?_
  exact am_e2 bf269_1508 rfl (am_ge_rf w)
theorem bk269_1587 {w : am_Wd} {l0 : Nat} {l1 : Nat} {l2 : Nat} {l3 : Nat} {l4 : Int32} {l6 : Int32} {s0 : Int64} : am_run 269 1587 [some (.ref l0), some (.ref l1), some (.ref l2), some (.ref l3), some (.int l4), none, some (.int l6), none] [.long s0] w = if l6 = nI 0 then am_run 269 1596 [some (.ref l0), some (.ref l1), some (.ref l2), some (.ref l3), some (.int l4), none, none, none] [.long s0] w else am_run 269 1592 [some (.ref l0), some (.ref l1), some (.ref l2), some (.ref l3), some (.int l4), none, none, none] [.long s0] w := by
  refine (bu (ls'' := [some (.ref l0), some (.ref l1), some (.ref l2), some (.ref l3), some (.int l4), none, none, none]) (st' := [.int l6, .long s0]) bf269_1587 bf269_1589 rfl rfl).trans ?_
  exact bifc bf269_1589 rfl bf269_1596 bf269_1592 rfl rfl rfl
theorem bk269_1663 {w : am_Wd} {l0 : Nat} {l1 : Nat} {l2 : Nat} {l3 : Nat} {l4 : Int32} {l6 : Int64} {s0 : Int64} : am_run 269 1663 [some (.ref l0), some (.ref l1), some (.ref l2), some (.ref l3), some (.int l4), none, some (.long l6), none] [.long s0] w = if (lg_cmp s0 l6) = nI 0 then am_run 269 1671 [some (.ref l0), some (.ref l1), some (.ref l2), some (.ref l3), some (.int l4), none, none, none] [] w else am_run 269 1669 [none, none, none, none, none, none, none, none] [] w := by
  refine (bu (ls'' := [some (.ref l0), some (.ref l1), some (.ref l2), some (.ref l3), some (.int l4), none, none, none]) (st' := [.long l6, .long s0]) bf269_1663 bf269_1665 rfl rfl).trans ?_
  refine (bu (ls'' := [some (.ref l0), some (.ref l1), some (.ref l2), some (.ref l3), some (.int l4), none, none, none]) (st' := [.int (lg_cmp s0 l6)]) bf269_1665 bf269_1666 rfl rfl).trans ?_
  exact bifc bf269_1666 rfl bf269_1671 bf269_1669 rfl rfl rfl
theorem bk269_1734 {w : am_Wd} {l0 : Nat} {l1 : Nat} {l2 : Nat} {l3 : Nat} {l4 : Int32} {l5 : Int32} {l6 : Int32} : am_run 269 1734 [some (.ref l0), some (.ref l1), some (.ref l2), some (.ref l3), some (.int l4), some (.int l5), some (.int l6), none] [] w = if ¬ l5 = nI 0 then am_run 269 1752 [some (.ref l0), some (.ref l1), some (.ref l2), some (.ref l3), some (.int l4), none, none, none] [] w else am_run 269 1739 [some (.ref l0), some (.ref l1), some (.ref l2), some (.ref l3), some (.int l4), none, some (.int l6), none] [] w := by
  refine (bu (ls'' := [some (.ref l0), some (.ref l1), some (.ref l2), some (.ref l3), some (.int l4), none, some (.int l6), none]) (st' := [.int l5]) bf269_1734 bf269_1736 rfl rfl).trans ?_
  exact bifc bf269_1736 rfl bf269_1752 bf269_1739 rfl rfl rfl
theorem bk269_1732 {w : am_Wd}  : am_run 269 1732 [none, none, none, none, none, none, none, none] [] w = some (.inl (some (.int (nI 0))), w) := by
  refine (bu (ls'' := [none, none, none, none, none, none, none, none]) (st' := [.int (nI 0)]) bf269_1732 bf269_1733 rfl rfl).trans ?_
  exact am_e2 bf269_1733 rfl (am_ge_rf w)
theorem bk269_1812 {w : am_Wd} {l0 : Nat} {l1 : Nat} {l2 : Nat} {l3 : Nat} {l4 : Int32} {l6 : Int32} {s0 : Int64} : am_run 269 1812 [some (.ref l0), some (.ref l1), some (.ref l2), some (.ref l3), some (.int l4), none, some (.int l6), none] [.long s0] w = if (lg_cmp s0 (Int32.toInt64 l6)) = nI 0 then am_run 269 1821 [some (.ref l0), some (.ref l1), some (.ref l2), some (.ref l3), some (.int l4), none, none, none] [] w else am_run 269 1819 [none, none, none, none, none, none, none, none] [] w := by
  refine (bu (ls'' := [some (.ref l0), some (.ref l1), some (.ref l2), some (.ref l3), some (.int l4), none, none, none]) (st' := [.int l6, .long s0]) bf269_1812 bf269_1814 rfl rfl).trans ?_
  refine (bu (ls'' := [some (.ref l0), some (.ref l1), some (.ref l2), some (.ref l3), some (.int l4), none, none, none]) (st' := [.long (Int32.toInt64 l6), .long s0]) bf269_1814 bf269_1815 rfl rfl).trans ?_
  refine (bu (ls'' := [some (.ref l0), some (.ref l1), some (.ref l2), some (.ref l3), some (.int l4), none, none, none]) (st' := [.int (lg_cmp s0 (Int32.toInt64 l6))]) bf269_1815 bf269_1816 rfl rfl).trans ?_
  exact bifc bf269_1816 rfl bf269_1821 bf269_1819 rfl rfl rfl
theorem bk269_1879 {w : am_Wd} {l0 : Nat} {l1 : Nat} {l2 : Nat} {l3 : Nat} {l4 : Int32} {l6 : UInt64} {s0 : UInt64} : am_run 269 1879 [some (.ref l0), some (.ref l1), some (.ref l2), some (.ref l3), some (.int l4), none, some (.double l6), none] [.double s0] w = (am_gf w l3 9 1).bind fun v => am_run 269 1883 [some (.ref l0), some (.ref l1), some (.ref l2), some (.ref l3), some (.int l4), none, some (.double l6), none] (v :: [.double s0]) w := by
  refine (bu (ls'' := [some (.ref l0), some (.ref l1), some (.ref l2), some (.ref l3), some (.int l4), none, some (.double l6), none]) (st' := [.ref l3, .double s0]) bf269_1879 bf269_1880 rfl rfl).trans ?_
  exact bh bf269_1880 bf269_1883 rfl (fun _ _ => am_ge_rf w) rfl
theorem bk269_1957 {w : am_Wd} {l0 : Nat} {l1 : Nat} {l2 : Nat} {l3 : Nat} {l4 : Int32} {l6 : Int32} {s0 : Int64} : am_run 269 1957 [some (.ref l0), some (.ref l1), some (.ref l2), some (.ref l3), some (.int l4), none, some (.int l6), none] [.long s0] w = if (lg_cmp s0 (Int32.toInt64 l6)) = nI 0 then am_run 269 1966 [some (.ref l0), some (.ref l1), some (.ref l2), some (.ref l3), some (.int l4), none, none, none] [] w else am_run 269 1964 [none, none, none, none, none, none, none, none] [] w := by
  refine (bu (ls'' := [some (.ref l0), some (.ref l1), some (.ref l2), some (.ref l3), some (.int l4), none, none, none]) (st' := [.int l6, .long s0]) bf269_1957 bf269_1959 rfl rfl).trans ?_
  refine (bu (ls'' := [some (.ref l0), some (.ref l1), some (.ref l2), some (.ref l3), some (.int l4), none, none, none]) (st' := [.long (Int32.toInt64 l6), .long s0]) bf269_1959 bf269_1960 rfl rfl).trans ?_
  refine (bu (ls'' := [some (.ref l0), some (.ref l1), some (.ref l2), some (.ref l3), some (.int l4), none, none, none]) (st' := [.int (lg_cmp s0 (Int32.toInt64 l6))]) bf269_1960 bf269_1961 rfl rfl).trans ?_
  exact bifc bf269_1961 rfl bf269_1966 bf269_1964 rfl rfl rfl
theorem bk269_2083 {w : am_Wd} {l0 : Nat} {l1 : Nat} {l2 : Nat} {l3 : Nat} {l4 : Int32} {l6 : Int32} {s0 : Int64} : am_run 269 2083 [some (.ref l0), some (.ref l1), some (.ref l2), some (.ref l3), some (.int l4), none, some (.int l6), none] [.long s0] w = if (lg_cmp s0 (Int32.toInt64 l6)) = nI 0 then am_run 269 2092 [some (.ref l0), some (.ref l1), some (.ref l2), some (.ref l3), some (.int l4), none, none, none] [] w else am_run 269 2090 [none, none, none, none, none, none, none, none] [] w := by
  refine (bu (ls'' := [some (.ref l0), some (.ref l1), some (.ref l2), some (.ref l3), some (.int l4), none, none, none]) (st' := [.int l6, .long s0]) bf269_2083 bf269_2085 rfl rfl).trans ?_
  refine (bu (ls'' := [some (.ref l0), some (.ref l1), some (.ref l2), some (.ref l3), some (.int l4), none, none, none]) (st' := [.long (Int32.toInt64 l6), .long s0]) bf269_2085 bf269_2086 rfl rfl).trans ?_
  refine (bu (ls'' := [some (.ref l0), some (.ref l1), some (.ref l2), some (.ref l3), some (.int l4), none, none, none]) (st' := [.int (lg_cmp s0 (Int32.toInt64 l6))]) bf269_2086 bf269_2087 rfl rfl).trans ?_
  exact bifc bf269_2087 rfl bf269_2092 bf269_2090 rfl rfl rfl
theorem bk269_2152 {w : am_Wd} {l0 : Nat} {l1 : Nat} {l2 : Nat} {l3 : Nat} {l4 : Int32} {l6 : Int32} {s0 : Int64} : am_run 269 2152 [some (.ref l0), some (.ref l1), some (.ref l2), some (.ref l3), some (.int l4), none, some (.int l6), none] [.long s0] w = if (lg_cmp s0 (Int32.toInt64 l6)) = nI 0 then am_run 269 2161 [some (.ref l0), some (.ref l1), some (.ref l2), some (.ref l3), some (.int l4), none, none, none] [] w else am_run 269 2159 [none, none, none, none, none, none, none, none] [] w := by
  refine (bu (ls'' := [some (.ref l0), some (.ref l1), some (.ref l2), some (.ref l3), some (.int l4), none, none, none]) (st' := [.int l6, .long s0]) bf269_2152 bf269_2154 rfl rfl).trans ?_
  refine (bu (ls'' := [some (.ref l0), some (.ref l1), some (.ref l2), some (.ref l3), some (.int l4), none, none, none]) (st' := [.long (Int32.toInt64 l6), .long s0]) bf269_2154 bf269_2155 rfl rfl).trans ?_
  refine (bu (ls'' := [some (.ref l0), some (.ref l1), some (.ref l2), some (.ref l3), some (.int l4), none, none, none]) (st' := [.int (lg_cmp s0 (Int32.toInt64 l6))]) bf269_2155 bf269_2156 rfl rfl).trans ?_
  exact bifc bf269_2156 rfl bf269_2161 bf269_2159 rfl rfl rfl
theorem bk269_237 {w : am_Wd} {l0 : Nat} {l1 : Nat} {l2 : Nat} {l3 : Nat} {l4 : Int32} {l5 : Int32} {l6 : Int32} {s0 : Int32} : am_run 269 237 [some (.ref l0), some (.ref l1), some (.ref l2), some (.ref l3), some (.int l4), some (.int l5), some (.int l6), none] [.int s0] w = if s0 = l5 then am_run 269 244 [some (.ref l0), some (.ref l1), some (.ref l2), some (.ref l3), some (.int l4), some (.int l5), some (.int l6), none] [] w else am_run 269 242 [none, none, none, none, none, none, none, none] [] w := by
  refine (bu (ls'' := [some (.ref l0), some (.ref l1), some (.ref l2), some (.ref l3), some (.int l4), some (.int l5), some (.int l6), none]) (st' := [.int l5, .int s0]) bf269_237 bf269_239 rfl rfl).trans ?_
  exact bic bf269_239 rfl bf269_244 bf269_242 rfl rfl rfl
theorem bk269_383 {w : am_Wd} {l0 : Nat} {l1 : Nat} {l2 : Nat} {l3 : Nat} {l4 : Int32} {l5 : Int32} {s0 : Int32} {s1 : Nat} : am_run 269 383 [some (.ref l0), some (.ref l1), some (.ref l2), some (.ref l3), some (.int l4), some (.int l5), none, none] [.int s0, .ref s1] w = am_run 269 384 [some (.ref l0), some (.ref l1), some (.ref l2), some (.ref l3), some (.int l4), some (.int l5), none, none] [.int (nI 0), .int s0, .ref s1] w := by
  refine (bu (ls'' := [some (.ref l0), some (.ref l1), some (.ref l2), some (.ref l3), some (.int l4), some (.int l5), none, none]) (st' := [.int (nI 0), .int s0, .ref s1]) bf269_383 bf269_384 rfl rfl).trans ?_
  rfl
theorem bk269_379 {w : am_Wd} {l0 : Nat} {l1 : Nat} {l2 : Nat} {l3 : Nat} {l4 : Int32} {l5 : Int32} {s0 : Int32} {s1 : Nat} : am_run 269 379 [some (.ref l0), some (.ref l1), some (.ref l2), some (.ref l3), some (.int l4), some (.int l5), none, none] [.int s0, .ref s1] w = am_run 269 384 [some (.ref l0), some (.ref l1), some (.ref l2), some (.ref l3), some (.int l4), some (.int l5), none, none] [.int (nI 1), .int s0, .ref s1] w := by
  refine (bu (ls'' := [some (.ref l0), some (.ref l1), some (.ref l2), some (.ref l3), some (.int l4), some (.int l5), none, none]) (st' := [.int (nI 1), .int s0, .ref s1]) bf269_379 bf269_380 rfl rfl).trans ?_
  refine (bu (ls'' := [some (.ref l0), some (.ref l1), some (.ref l2), some (.ref l3), some (.int l4), some (.int l5), none, none]) (st' := [.int (nI 1), .int s0, .ref s1]) bf269_380 bf269_384 rfl rfl).trans ?_
  rfl
theorem bk269_499 {w : am_Wd} {l0 : Nat} {l1 : Nat} {l2 : Nat} {l3 : Nat} {l4 : Int32} {l5 : Int32} {s0 : Int32} {s1 : Int32} {s2 : Int32} {s3 : Int32} {s4 : Nat} : am_run 269 499 [some (.ref l0), some (.ref l1), some (.ref l2), some (.ref l3), some (.int l4), some (.int l5), none, none] [.int s0, .int s1, .int s2, .int s3, .ref s4] w = if s0 = nI 0 then am_run 269 506 [some (.ref l0), some (.ref l1), some (.ref l2), some (.ref l3), some (.int l4), some (.int l5), none, none] [.int s1, .int s2, .int s3, .ref s4] w else am_run 269 502 [some (.ref l0), some (.ref l1), some (.ref l2), some (.ref l3), some (.int l4), some (.int l5), none, none] [.int s1, .int s2, .int s3, .ref s4] w := by
  exact bifc bf269_499 rfl bf269_506 bf269_502 rfl rfl rfl
theorem bk269_601 {w : am_Wd} {l0 : Nat} {l1 : Nat} {l2 : Nat} {l3 : Nat} {l4 : Int32} {l5 : Int32} {l6 : Int32} {s0 : Int32} : am_run 269 601 [some (.ref l0), some (.ref l1), some (.ref l2), some (.ref l3), some (.int l4), some (.int l5), some (.int l6), none] [.int s0] w = if s0 = l5 then am_run 269 608 [some (.ref l0), some (.ref l1), some (.ref l2), some (.ref l3), some (.int l4), some (.int l5), some (.int l6), none] [] w else am_run 269 606 [none, none, none, none, none, none, none, none] [] w := by
  refine (bu (ls'' := [some (.ref l0), some (.ref l1), some (.ref l2), some (.ref l3), some (.int l4), some (.int l5), some (.int l6), none]) (st' := [.int l5, .int s0]) bf269_601 bf269_603 rfl rfl).trans ?_
  exact bic bf269_603 rfl bf269_608 bf269_606 rfl rfl rfl
theorem bk269_697 {w : am_Wd} {l0 : Nat} {l1 : Nat} {l2 : Nat} {l3 : Nat} {l4 : Int32} {l5 : Int32} {s0 : Int32} {s1 : Nat} : am_run 269 697 [some (.ref l0), some (.ref l1), some (.ref l2), some (.ref l3), some (.int l4), some (.int l5), none, none] [.int s0, .ref s1] w = am_run 269 698 [some (.ref l0), some (.ref l1), some (.ref l2), some (.ref l3), some (.int l4), some (.int l5), none, none] [.int (nI 0), .int s0, .ref s1] w := by
  refine (bu (ls'' := [some (.ref l0), some (.ref l1), some (.ref l2), some (.ref l3), some (.int l4), some (.int l5), none, none]) (st' := [.int (nI 0), .int s0, .ref s1]) bf269_697 bf269_698 rfl rfl).trans ?_
  rfl
theorem bk269_693 {w : am_Wd} {l0 : Nat} {l1 : Nat} {l2 : Nat} {l3 : Nat} {l4 : Int32} {l5 : Int32} {s0 : Int32} {s1 : Nat} : am_run 269 693 [some (.ref l0), some (.ref l1), some (.ref l2), some (.ref l3), some (.int l4), some (.int l5), none, none] [.int s0, .ref s1] w = am_run 269 698 [some (.ref l0), some (.ref l1), some (.ref l2), some (.ref l3), some (.int l4), some (.int l5), none, none] [.int (nI 1), .int s0, .ref s1] w := by
  refine (bu (ls'' := [some (.ref l0), some (.ref l1), some (.ref l2), some (.ref l3), some (.int l4), some (.int l5), none, none]) (st' := [.int (nI 1), .int s0, .ref s1]) bf269_693 bf269_694 rfl rfl).trans ?_
  refine (bu (ls'' := [some (.ref l0), some (.ref l1), some (.ref l2), some (.ref l3), some (.int l4), some (.int l5), none, none]) (st' := [.int (nI 1), .int s0, .ref s1]) bf269_694 bf269_698 rfl rfl).trans ?_
  rfl
theorem bk269_806 {w : am_Wd} {l0 : Nat} {l1 : Nat} {l2 : Nat} {l3 : Nat} {l4 : Int32} {l5 : Int32} {l6 : Int32} {s0 : Int32} : am_run 269 806 [some (.ref l0), some (.ref l1), some (.ref l2), some (.ref l3), some (.int l4), some (.int l5), some (.int l6), none] [.int s0] w = if s0 = l5 then am_run 269 813 [some (.ref l0), some (.ref l1), some (.ref l2), some (.ref l3), some (.int l4), some (.int l5), some (.int l6), none] [] w else am_run 269 811 [none, none, none, none, none, none, none, none] [] w := by
  refine (bu (ls'' := [some (.ref l0), some (.ref l1), some (.ref l2), some (.ref l3), some (.int l4), some (.int l5), some (.int l6), none]) (st' := [.int l5, .int s0]) bf269_806 bf269_808 rfl rfl).trans ?_
  exact bic bf269_808 rfl bf269_813 bf269_811 rfl rfl rfl
theorem bk269_891 {w : am_Wd} {l0 : Nat} {l1 : Nat} {l2 : Nat} {l3 : Nat} {l4 : Int32} {l5 : Int32} {l6 : Int32} {s0 : Int32} : am_run 269 891 [some (.ref l0), some (.ref l1), some (.ref l2), some (.ref l3), some (.int l4), some (.int l5), some (.int l6), none] [.int s0] w = if s0 = l5 then am_run 269 898 [some (.ref l0), some (.ref l1), some (.ref l2), some (.ref l3), some (.int l4), some (.int l5), some (.int l6), none] [] w else am_run 269 896 [none, none, none, none, none, none, none, none] [] w := by
  refine (bu (ls'' := [some (.ref l0), some (.ref l1), some (.ref l2), some (.ref l3), some (.int l4), some (.int l5), some (.int l6), none]) (st' := [.int l5, .int s0]) bf269_891 bf269_893 rfl rfl).trans ?_
  exact bic bf269_893 rfl bf269_898 bf269_896 rfl rfl rfl
theorem bk269_983 {w : am_Wd}  : am_run 269 983 [none, none, none, none, none, none, none, none] [] w = some (.inl (some (.int (nI 0))), w) := by
  refine (bu (ls'' := [none, none, none, none, none, none, none, none]) (st' := [.int (nI 0)]) bf269_983 bf269_984 rfl rfl).trans ?_
  exact am_e2 bf269_984 rfl (am_ge_rf w)
theorem bk269_1109 {w : am_Wd}  : am_run 269 1109 [none, none, none, none, none, none, none, none] [] w = some (.inl (some (.int (nI 0))), w) := by
  refine (bu (ls'' := [none, none, none, none, none, none, none, none]) (st' := [.int (nI 0)]) bf269_1109 bf269_1110 rfl rfl).trans ?_
  exact am_e2 bf269_1110 rfl (am_ge_rf w)
theorem bk269_1262 {w : am_Wd} {l0 : Nat} {l1 : Nat} {l2 : Nat} {l3 : Nat} {l4 : Int32} : am_run 269 1262 [some (.ref l0), some (.ref l1), some (.ref l2), some (.ref l3), some (.int l4), none, none, none] [] w = am_run 269 2191 [some (.ref l0), some (.ref l1), some (.ref l2), some (.ref l3), some (.int l4), none, none, none] [] w := by
  refine (bu (ls'' := [some (.ref l0), some (.ref l1), some (.ref l2), some (.ref l3), some (.int l4), none, none, none]) (st' := []) bf269_1262 bf269_2191 rfl rfl).trans ?_
  rfl
theorem bk269_1249 {w : am_Wd} {l0 : Nat} {l1 : Nat} {l2 : Nat} {l3 : Nat} {l4 : Int32} {l6 : Int32} : am_run 269 1249 [some (.ref l0), some (.ref l1), some (.ref l2), some (.ref l3), some (.int l4), none, some (.int l6), none] [] w = (am_gf w l3 9 0).bind fun v => am_run 269 1253 [some (.ref l0), some (.ref l1), some (.ref l2), some (.ref l3), some (.int l4), none, some (.int l6), none] (v :: []) w := by
  refine (bu (ls'' := [some (.ref l0), some (.ref l1), some (.ref l2), some (.ref l3), some (.int l4), none, some (.int l6), none]) (st' := [.ref l3]) bf269_1249 bf269_1250 rfl rfl).trans ?_
  exact bh bf269_1250 bf269_1253 rfl (fun _ _ => am_ge_rf w) rfl
theorem bk269_1329 {w : am_Wd}  : am_run 269 1329 [none, none, none, none, none, none, none, none] [] w = some (.inl (some (.int (nI 0))), w) := by
  refine (bu (ls'' := [none, none, none, none, none, none, none, none]) (st' := [.int (nI 0)]) bf269_1329 bf269_1330 rfl rfl).trans ?_
  exact am_e2 bf269_1330 rfl (am_ge_rf w)
theorem bk269_1527 {w : am_Wd} {l0 : Nat} {l1 : Nat} {l2 : Nat} {l3 : Nat} {l4 : Int32} : am_run 269 1527 [some (.ref l0), some (.ref l1), some (.ref l2), some (.ref l3), some (.int l4), none, none, none] [] w = am_run 269 2191 [some (.ref l0), some (.ref l1), some (.ref l2), some (.ref l3), some (.int l4), none, none, none] [] w := by
  refine (bu (ls'' := [some (.ref l0), some (.ref l1), some (.ref l2), some (.ref l3), some (.int l4), none, none, none]) (st' := []) bf269_1527 bf269_2191 rfl rfl).trans ?_
  rfl
theorem bk269_1514 {w : am_Wd} {l0 : Nat} {l1 : Nat} {l2 : Nat} {l3 : Nat} {l4 : Int32} {l6 : Int32} : am_run 269 1514 [some (.ref l0), some (.ref l1), some (.ref l2), some (.ref l3), some (.int l4), none, some (.int l6), none] [] w = (am_gf w l3 9 0).bind fun v => am_run 269 1518 [some (.ref l0), some (.ref l1), some (.ref l2), some (.ref l3), some (.int l4), none, some (.int l6), none] (v :: []) w := by
  refine (bu (ls'' := [some (.ref l0), some (.ref l1), some (.ref l2), some (.ref l3), some (.int l4), none, some (.int l6), none]) (st' := [.ref l3]) bf269_1514 bf269_1515 rfl rfl).trans ?_
  exact bh bf269_1515 bf269_1518 rfl (fun _ _ => am_ge_rf w) rfl
theorem bk269_1596 {w : am_Wd} {l0 : Nat} {l1 : Nat} {l2 : Nat} {l3 : Nat} {l4 : Int32} {s0 : Int64} : am_run 269 1596 [some (.ref l0), some (.ref l1), some (.ref l2), some (.ref l3), some (.int l4), none, none, none] [.long s0] w = am_run 269 1597 [some (.ref l0), some (.ref l1), some (.ref l2), some (.ref l3), some (.int l4), none, none, none] [.long (lN 0), .long s0] w := by
  refine (bu (ls'' := [some (.ref l0), some (.ref l1), some (.ref l2), some (.ref l3), some (.int l4), none, none, none]) (st' := [.long (lN 0), .long s0]) bf269_1596 bf269_1597 rfl rfl).trans ?_
  rfl
theorem bk269_1592 {w : am_Wd} {l0 : Nat} {l1 : Nat} {l2 : Nat} {l3 : Nat} {l4 : Int32} {s0 : Int64} : am_run 269 1592 [some (.ref l0), some (.ref l1), some (.ref l2), some (.ref l3), some (.int l4), none, none, none] [.long s0] w = am_run 269 1597 [some (.ref l0), some (.ref l1), some (.ref l2), some (.ref l3), some (.int l4), none, none, none] [.long (lN 1), .long s0] w := by
  refine (bu (ls'' := [some (.ref l0), some (.ref l1), some (.ref l2), some (.ref l3), some (.int l4), none, none, none]) (st' := [.long (lN 1), .long s0]) bf269_1592 bf269_1593 rfl rfl).trans ?_
  refine (bu (ls'' := [some (.ref l0), some (.ref l1), some (.ref l2), some (.ref l3), some (.int l4), none, none, none]) (st' := [.long (lN 1), .long s0]) bf269_1593 bf269_1597 rfl rfl).trans ?_
  rfl
theorem bk269_1669 {w : am_Wd}  : am_run 269 1669 [none, none, none, none, none, none, none, none] [] w = some (.inl (some (.int (nI 0))), w) := by
  refine (bu (ls'' := [none, none, none, none, none, none, none, none]) (st' := [.int (nI 0)]) bf269_1669 bf269_1670 rfl rfl).trans ?_
  exact am_e2 bf269_1670 rfl (am_ge_rf w)
theorem bk269_1752 {w : am_Wd} {l0 : Nat} {l1 : Nat} {l2 : Nat} {l3 : Nat} {l4 : Int32} : am_run 269 1752 [some (.ref l0), some (.ref l1), some (.ref l2), some (.ref l3), some (.int l4), none, none, none] [] w = am_run 269 2191 [some (.ref l0), some (.ref l1), some (.ref l2), some (.ref l3), some (.int l4), none, none, none] [] w := by
  refine (bu (ls'' := [some (.ref l0), some (.ref l1), some (.ref l2), some (.ref l3), some (.int l4), none, none, none]) (st' := []) bf269_1752 bf269_2191 rfl rfl).trans ?_
  rfl
theorem bk269_1739 {w : am_Wd} {l0 : Nat} {l1 : Nat} {l2 : Nat} {l3 : Nat} {l4 : Int32} {l6 : Int32} : am_run 269 1739 [some (.ref l0), some (.ref l1), some (.ref l2), some (.ref l3), some (.int l4), none, some (.int l6), none] [] w = (am_gf w l3 9 0).bind fun v => am_run 269 1743 [some (.ref l0), some (.ref l1), some (.ref l2), some (.ref l3), some (.int l4), none, some (.int l6), none] (v :: []) w := by
  refine (bu (ls'' := [some (.ref l0), some (.ref l1), some (.ref l2), some (.ref l3), some (.int l4), none, some (.int l6), none]) (st' := [.ref l3]) bf269_1739 bf269_1740 rfl rfl).trans ?_
  exact bh bf269_1740 bf269_1743 rfl (fun _ _ => am_ge_rf w) rfl
theorem bk269_1819 {w : am_Wd}  : am_run 269 1819 [none, none, none, none, none, none, none, none] [] w = some (.inl (some (.int (nI 0))), w) := by
  refine (bu (ls'' := [none, none, none, none, none, none, none, none]) (st' := [.int (nI 0)]) bf269_1819 bf269_1820 rfl rfl).trans ?_
  exact am_e2 bf269_1820 rfl (am_ge_rf w)
theorem bk269_1883 {w : am_Wd} {l0 : Nat} {l1 : Nat} {l2 : Nat} {l3 : Nat} {l4 : Int32} {l6 : UInt64} {s0 : UInt64} {s1 : UInt64} : am_run 269 1883 [some (.ref l0), some (.ref l1), some (.ref l2), some (.ref l3), some (.int l4), none, some (.double l6), none] [.double s0, .double s1] w = if (Op.cmpValue (FP.dcmp s1 s0) .l) = nI 0 then am_run 269 1895 [none, none, none, none, none, none, none, none] [] w else am_run 269 1887 [some (.ref l0), some (.ref l1), some (.ref l2), some (.ref l3), some (.int l4), none, some (.double l6), none] [] w := by
  refine (bu (ls'' := [some (.ref l0), some (.ref l1), some (.ref l2), some (.ref l3), some (.int l4), none, some (.double l6), none]) (st' := [.int (Op.cmpValue (FP.dcmp s1 s0) .l)]) bf269_1883 bf269_1884 rfl rfl).trans ?_
  exact bifc bf269_1884 rfl bf269_1895 bf269_1887 rfl rfl rfl
theorem bk269_1964 {w : am_Wd}  : am_run 269 1964 [none, none, none, none, none, none, none, none] [] w = some (.inl (some (.int (nI 0))), w) := by
  refine (bu (ls'' := [none, none, none, none, none, none, none, none]) (st' := [.int (nI 0)]) bf269_1964 bf269_1965 rfl rfl).trans ?_
  exact am_e2 bf269_1965 rfl (am_ge_rf w)
theorem bk269_2090 {w : am_Wd}  : am_run 269 2090 [none, none, none, none, none, none, none, none] [] w = some (.inl (some (.int (nI 0))), w) := by
  refine (bu (ls'' := [none, none, none, none, none, none, none, none]) (st' := [.int (nI 0)]) bf269_2090 bf269_2091 rfl rfl).trans ?_
  exact am_e2 bf269_2091 rfl (am_ge_rf w)
theorem bk269_2159 {w : am_Wd}  : am_run 269 2159 [none, none, none, none, none, none, none, none] [] w = some (.inl (some (.int (nI 0))), w) := by
  refine (bu (ls'' := [none, none, none, none, none, none, none, none]) (st' := [.int (nI 0)]) bf269_2159 bf269_2160 rfl rfl).trans ?_
  exact am_e2 bf269_2160 rfl (am_ge_rf w)
theorem bk269_244 {w : am_Wd} {l0 : Nat} {l1 : Nat} {l2 : Nat} {l3 : Nat} {l4 : Int32} {l5 : Int32} {l6 : Int32} : am_run 269 244 [some (.ref l0), some (.ref l1), some (.ref l2), some (.ref l3), some (.int l4), some (.int l5), some (.int l6), none] [] w = if ¬ l5 = nI 0 then am_run 269 262 [some (.ref l0), some (.ref l1), some (.ref l2), some (.ref l3), some (.int l4), none, none, none] [] w else am_run 269 249 [some (.ref l0), some (.ref l1), some (.ref l2), some (.ref l3), some (.int l4), none, some (.int l6), none] [] w := by
  refine (bu (ls'' := [some (.ref l0), some (.ref l1), some (.ref l2), some (.ref l3), some (.int l4), none, some (.int l6), none]) (st' := [.int l5]) bf269_244 bf269_246 rfl rfl).trans ?_
  exact bifc bf269_246 rfl bf269_262 bf269_249 rfl rfl rfl
theorem bk269_242 {w : am_Wd}  : am_run 269 242 [none, none, none, none, none, none, none, none] [] w = some (.inl (some (.int (nI 0))), w) := by
  refine (bu (ls'' := [none, none, none, none, none, none, none, none]) (st' := [.int (nI 0)]) bf269_242 bf269_243 rfl rfl).trans ?_
  exact am_e2 bf269_243 rfl (am_ge_rf w)
theorem bk269_384 {w : am_Wd} {l0 : Nat} {l1 : Nat} {l2 : Nat} {l3 : Nat} {l4 : Int32} {l5 : Int32} {s0 : Int32} {s1 : Int32} {s2 : Nat} : am_run 269 384 [some (.ref l0), some (.ref l1), some (.ref l2), some (.ref l3), some (.int l4), some (.int l5), none, none] [.int s0, .int s1, .ref s2] w = (am_ri 0 w l0 (l4 + (nI 3))).bind fun v => am_run 269 390 [some (.ref l0), some (.ref l1), some (.ref l2), some (.ref l3), some (.int l4), some (.int l5), none, none] (.int v :: [.int s0, .int s1, .ref s2]) w := by
  refine (bu (ls'' := [some (.ref l0), some (.ref l1), some (.ref l2), some (.ref l3), some (.int l4), some (.int l5), none, none]) (st' := [.ref l0, .int s0, .int s1, .ref s2]) bf269_384 bf269_385 rfl rfl).trans ?_
  refine (bu (ls'' := [some (.ref l0), some (.ref l1), some (.ref l2), some (.ref l3), some (.int l4), some (.int l5), none, none]) (st' := [.int l4, .ref l0, .int s0, .int s1, .ref s2]) bf269_385 bf269_387 rfl rfl).trans ?_
  refine (bu (ls'' := [some (.ref l0), some (.ref l1), some (.ref l2), some (.ref l3), some (.int l4), some (.int l5), none, none]) (st' := [.int (nI 3), .int l4, .ref l0, .int s0, .int s1, .ref s2]) bf269_387 bf269_388 rfl rfl).trans ?_
  refine (bu (ls'' := [some (.ref l0), some (.ref l1), some (.ref l2), some (.ref l3), some (.int l4), some (.int l5), none, none]) (st' := [.int (l4 + (nI 3)), .ref l0, .int s0, .int s1, .ref s2]) bf269_388 bf269_389 rfl rfl).trans ?_
  exact bh bf269_389 bf269_390 rfl (fun _ _ => am_ge_rf w) rfl
theorem bk269_506 {w : am_Wd} {l0 : Nat} {l1 : Nat} {l2 : Nat} {l3 : Nat} {l4 : Int32} {l5 : Int32} {s0 : Int32} {s1 : Int32} {s2 : Int32} {s3 : Nat} : am_run 269 506 [some (.ref l0), some (.ref l1), some (.ref l2), some (.ref l3), some (.int l4), some (.int l5), none, none] [.int s0, .int s1, .int s2, .ref s3] w = am_run 269 507 [some (.ref l0), some (.ref l1), some (.ref l2), some (.ref l3), some (.int l4), some (.int l5), none, none] [.int (nI 0), .int s0, .int s1, .int s2, .ref s3] w := by
  refine (bu (ls'' := [some (.ref l0), some (.ref l1), some (.ref l2), some (.ref l3), some (.int l4), some (.int l5), none, none]) (st' := [.int (nI 0), .int s0, .int s1, .int s2, .ref s3]) bf269_506 bf269_507 rfl rfl).trans ?_
  rfl
theorem bk269_502 {w : am_Wd} {l0 : Nat} {l1 : Nat} {l2 : Nat} {l3 : Nat} {l4 : Int32} {l5 : Int32} {s0 : Int32} {s1 : Int32} {s2 : Int32} {s3 : Nat} : am_run 269 502 [some (.ref l0), some (.ref l1), some (.ref l2), some (.ref l3), some (.int l4), some (.int l5), none, none] [.int s0, .int s1, .int s2, .ref s3] w = am_run 269 507 [some (.ref l0), some (.ref l1), some (.ref l2), some (.ref l3), some (.int l4), some (.int l5), none, none] [.int (nI 1), .int s0, .int s1, .int s2, .ref s3] w := by
  refine (bu (ls'' := [some (.ref l0), some (.ref l1), some (.ref l2), some (.ref l3), some (.int l4), some (.int l5), none, none]) (st' := [.int (nI 1), .int s0, .int s1, .int s2, .ref s3]) bf269_502 bf269_503 rfl rfl).trans ?_
  refine (bu (ls'' := [some (.ref l0), some (.ref l1), some (.ref l2), some (.ref l3), some (.int l4), some (.int l5), none, none]) (st' := [.int (nI 1), .int s0, .int s1, .int s2, .ref s3]) bf269_503 bf269_507 rfl rfl).trans ?_
  rfl
theorem bk269_608 {w : am_Wd} {l0 : Nat} {l1 : Nat} {l2 : Nat} {l3 : Nat} {l4 : Int32} {l5 : Int32} {l6 : Int32} : am_run 269 608 [some (.ref l0), some (.ref l1), some (.ref l2), some (.ref l3), some (.int l4), some (.int l5), some (.int l6), none] [] w = if ¬ l5 = nI 0 then am_run 269 633 [some (.ref l0), some (.ref l1), some (.ref l2), some (.ref l3), some (.int l4), none, none, none] [] w else am_run 269 613 [some (.ref l0), some (.ref l1), some (.ref l2), some (.ref l3), some (.int l4), none, some (.int l6), none] [] w := by
  refine (bu (ls'' := [some (.ref l0), some (.ref l1), some (.ref l2), some (.ref l3), some (.int l4), none, some (.int l6), none]) (st' := [.int l5]) bf269_608 bf269_610 rfl rfl).trans ?_
  exact bifc bf269_610 rfl bf269_633 bf269_613 rfl rfl rfl
theorem bk269_606 {w : am_Wd}  : am_run 269 606 [none, none, none, none, none, none, none, none] [] w = some (.inl (some (.int (nI 0))), w) := by
  refine (bu (ls'' := [none, none, none, none, none, none, none, none]) (st' := [.int (nI 0)]) bf269_606 bf269_607 rfl rfl).trans ?_
  exact am_e2 bf269_607 rfl (am_ge_rf w)
theorem bk269_698 {w : am_Wd} {l0 : Nat} {l1 : Nat} {l2 : Nat} {l3 : Nat} {l4 : Int32} {l5 : Int32} {s0 : Int32} {s1 : Int32} {s2 : Nat} : am_run 269 698 [some (.ref l0), some (.ref l1), some (.ref l2), some (.ref l3), some (.int l4), some (.int l5), none, none] [.int s0, .int s1, .ref s2] w = (am_ri 0 w l0 (l4 + (nI 3))).bind fun v => am_run 269 704 [some (.ref l0), some (.ref l1), some (.ref l2), some (.ref l3), some (.int l4), some (.int l5), none, none] (.int v :: [.int s0, .int s1, .ref s2]) w := by
  refine (bu (ls'' := [some (.ref l0), some (.ref l1), some (.ref l2), some (.ref l3), some (.int l4), some (.int l5), none, none]) (st' := [.ref l0, .int s0, .int s1, .ref s2]) bf269_698 bf269_699 rfl rfl).trans ?_
  refine (bu (ls'' := [some (.ref l0), some (.ref l1), some (.ref l2), some (.ref l3), some (.int l4), some (.int l5), none, none]) (st' := [.int l4, .ref l0, .int s0, .int s1, .ref s2]) bf269_699 bf269_701 rfl rfl).trans ?_
  refine (bu (ls'' := [some (.ref l0), some (.ref l1), some (.ref l2), some (.ref l3), some (.int l4), some (.int l5), none, none]) (st' := [.int (nI 3), .int l4, .ref l0, .int s0, .int s1, .ref s2]) bf269_701 bf269_702 rfl rfl).trans ?_
  refine (bu (ls'' := [some (.ref l0), some (.ref l1), some (.ref l2), some (.ref l3), some (.int l4), some (.int l5), none, none]) (st' := [.int (l4 + (nI 3)), .ref l0, .int s0, .int s1, .ref s2]) bf269_702 bf269_703 rfl rfl).trans ?_
  exact bh bf269_703 bf269_704 rfl (fun _ _ => am_ge_rf w) rfl
theorem bk269_813 {w : am_Wd} {l0 : Nat} {l1 : Nat} {l2 : Nat} {l3 : Nat} {l4 : Int32} {l5 : Int32} {l6 : Int32} : am_run 269 813 [some (.ref l0), some (.ref l1), some (.ref l2), some (.ref l3), some (.int l4), some (.int l5), some (.int l6), none] [] w = if ¬ l5 = nI 0 then am_run 269 831 [some (.ref l0), some (.ref l1), some (.ref l2), some (.ref l3), some (.int l4), none, none, none] [] w else am_run 269 818 [some (.ref l0), some (.ref l1), some (.ref l2), some (.ref l3), some (.int l4), none, some (.int l6), none] [] w := by
  refine (bu (ls'' := [some (.ref l0), some (.ref l1), some (.ref l2), some (.ref l3), some (.int l4), none, some (.int l6), none]) (st' := [.int l5]) bf269_813 bf269_815 rfl rfl).trans ?_
  exact bifc bf269_815 rfl bf269_831 bf269_818 rfl rfl rfl
theorem bk269_811 {w : am_Wd}  : am_run 269 811 [none, none, none, none, none, none, none, none] [] w = some (.inl (some (.int (nI 0))), w) := by
  refine (bu (ls'' := [none, none, none, none, none, none, none, none]) (st' := [.int (nI 0)]) bf269_811 bf269_812 rfl rfl).trans ?_
  exact am_e2 bf269_812 rfl (am_ge_rf w)
theorem bk269_898 {w : am_Wd} {l0 : Nat} {l1 : Nat} {l2 : Nat} {l3 : Nat} {l4 : Int32} {l5 : Int32} {l6 : Int32} : am_run 269 898 [some (.ref l0), some (.ref l1), some (.ref l2), some (.ref l3), some (.int l4), some (.int l5), some (.int l6), none] [] w = if ¬ l5 = nI 0 then am_run 269 916 [some (.ref l0), some (.ref l1), some (.ref l2), some (.ref l3), some (.int l4), none, none, none] [] w else am_run 269 903 [some (.ref l0), some (.ref l1), some (.ref l2), some (.ref l3), some (.int l4), none, some (.int l6), none] [] w := by
  refine (bu (ls'' := [some (.ref l0), some (.ref l1), some (.ref l2), some (.ref l3), some (.int l4), none, some (.int l6), none]) (st' := [.int l5]) bf269_898 bf269_900 rfl rfl).trans ?_
  exact bifc bf269_900 rfl bf269_916 bf269_903 rfl rfl rfl
theorem bk269_896 {w : am_Wd}  : am_run 269 896 [none, none, none, none, none, none, none, none] [] w = some (.inl (some (.int (nI 0))), w) := by
  refine (bu (ls'' := [none, none, none, none, none, none, none, none]) (st' := [.int (nI 0)]) bf269_896 bf269_897 rfl rfl).trans ?_
  exact am_e2 bf269_897 rfl (am_ge_rf w)
theorem bk269_1253 {w : am_Wd} {l0 : Nat} {l1 : Nat} {l2 : Nat} {l3 : Nat} {l4 : Int32} {l6 : Int32} {s0 : Int64} : am_run 269 1253 [some (.ref l0), some (.ref l1), some (.ref l2), some (.ref l3), some (.int l4), none, some (.int l6), none] [.long s0] w = if (lg_cmp s0 (Int32.toInt64 l6)) = nI 0 then am_run 269 1262 [some (.ref l0), some (.ref l1), some (.ref l2), some (.ref l3), some (.int l4), none, none, none] [] w else am_run 269 1260 [none, none, none, none, none, none, none, none] [] w := by
  refine (bu (ls'' := [some (.ref l0), some (.ref l1), some (.ref l2), some (.ref l3), some (.int l4), none, none, none]) (st' := [.int l6, .long s0]) bf269_1253 bf269_1255 rfl rfl).trans ?_
  refine (bu (ls'' := [some (.ref l0), some (.ref l1), some (.ref l2), some (.ref l3), some (.int l4), none, none, none]) (st' := [.long (Int32.toInt64 l6), .long s0]) bf269_1255 bf269_1256 rfl rfl).trans ?_
  refine (bu (ls'' := [some (.ref l0), some (.ref l1), some (.ref l2), some (.ref l3), some (.int l4), none, none, none]) (st' := [.int (lg_cmp s0 (Int32.toInt64 l6))]) bf269_1256 bf269_1257 rfl rfl).trans ?_
  exact bifc bf269_1257 rfl bf269_1262 bf269_1260 rfl rfl rfl
theorem bk269_1518 {w : am_Wd} {l0 : Nat} {l1 : Nat} {l2 : Nat} {l3 : Nat} {l4 : Int32} {l6 : Int32} {s0 : Int64} : am_run 269 1518 [some (.ref l0), some (.ref l1), some (.ref l2), some (.ref l3), some (.int l4), none, some (.int l6), none] [.long s0] w = if (lg_cmp s0 (Int32.toInt64 l6)) = nI 0 then am_run 269 1527 [some (.ref l0), some (.ref l1), some (.ref l2), some (.ref l3), some (.int l4), none, none, none] [] w else am_run 269 1525 [none, none, none, none, none, none, none, none] [] w := by
  refine (bu (ls'' := [some (.ref l0), some (.ref l1), some (.ref l2), some (.ref l3), some (.int l4), none, none, none]) (st' := [.int l6, .long s0]) bf269_1518 bf269_1520 rfl rfl).trans ?_
  refine (bu (ls'' := [some (.ref l0), some (.ref l1), some (.ref l2), some (.ref l3), some (.int l4), none, none, none]) (st' := [.long (Int32.toInt64 l6), .long s0]) bf269_1520 bf269_1521 rfl rfl).trans ?_
  refine (bu (ls'' := [some (.ref l0), some (.ref l1), some (.ref l2), some (.ref l3), some (.int l4), none, none, none]) (st' := [.int (lg_cmp s0 (Int32.toInt64 l6))]) bf269_1521 bf269_1522 rfl rfl).trans ?_
  exact bifc bf269_1522 rfl bf269_1527 bf269_1525 rfl rfl rfl
theorem bk269_1597 {w : am_Wd} {l0 : Nat} {l1 : Nat} {l2 : Nat} {l3 : Nat} {l4 : Int32} {s0 : Int64} {s1 : Int64} : am_run 269 1597 [some (.ref l0), some (.ref l1), some (.ref l2), some (.ref l3), some (.int l4), none, none, none] [.long s0, .long s1] w = if (lg_cmp s1 s0) = nI 0 then am_run 269 1603 [some (.ref l0), some (.ref l1), some (.ref l2), some (.ref l3), some (.int l4), none, none, none] [] w else am_run 269 1601 [none, none, none, none, none, none, none, none] [] w := by
  refine (bu (ls'' := [some (.ref l0), some (.ref l1), some (.ref l2), some (.ref l3), some (.int l4), none, none, none]) (st' := [.int (lg_cmp s1 s0)]) bf269_1597 bf269_1598 rfl rfl).trans ?_
  exact bifc bf269_1598 rfl bf269_1603 bf269_1601 rfl rfl rfl
theorem bk269_1743 {w : am_Wd} {l0 : Nat} {l1 : Nat} {l2 : Nat} {l3 : Nat} {l4 : Int32} {l6 : Int32} {s0 : Int64} : am_run 269 1743 [some (.ref l0), some (.ref l1), some (.ref l2), some (.ref l3), some (.int l4), none, some (.int l6), none] [.long s0] w = if (lg_cmp s0 (Int32.toInt64 l6)) = nI 0 then am_run 269 1752 [some (.ref l0), some (.ref l1), some (.ref l2), some (.ref l3), some (.int l4), none, none, none] [] w else am_run 269 1750 [none, none, none, none, none, none, none, none] [] w := by
  refine (bu (ls'' := [some (.ref l0), some (.ref l1), some (.ref l2), some (.ref l3), some (.int l4), none, none, none]) (st' := [.int l6, .long s0]) bf269_1743 bf269_1745 rfl rfl).trans ?_
  refine (bu (ls'' := [some (.ref l0), some (.ref l1), some (.ref l2), some (.ref l3), some (.int l4), none, none, none]) (st' := [.long (Int32.toInt64 l6), .long s0]) bf269_1745 bf269_1746 rfl rfl).trans ?_
  refine (bu (ls'' := [some (.ref l0), some (.ref l1), some (.ref l2), some (.ref l3), some (.int l4), none, none, none]) (st' := [.int (lg_cmp s0 (Int32.toInt64 l6))]) bf269_1746 bf269_1747 rfl rfl).trans ?_
  exact bifc bf269_1747 rfl bf269_1752 bf269_1750 rfl rfl rfl
theorem bk269_1895 {w : am_Wd}  : am_run 269 1895 [none, none, none, none, none, none, none, none] [] w = some (.inl (some (.int (nI 0))), w) := by
  refine (bu (ls'' := [none, none, none, none, none, none, none, none]) (st' := [.int (nI 0)]) bf269_1895 bf269_1896 rfl rfl).trans ?_
  exact am_e2 bf269_1896 rfl (am_ge_rf w)
theorem bk269_1887 {w : am_Wd} {l0 : Nat} {l1 : Nat} {l2 : Nat} {l3 : Nat} {l4 : Int32} {l6 : UInt64} : am_run 269 1887 [some (.ref l0), some (.ref l1), some (.ref l2), some (.ref l3), some (.int l4), none, some (.double l6), none] [] w = if ¬ (Op.cmpValue (FP.dcmp l6 l6) .l) = nI 0 then am_run 269 1897 [some (.ref l0), some (.ref l1), some (.ref l2), some (.ref l3), some (.int l4), none, none, none] [] w else am_run 269 1895 [none, none, none, none, none, none, none, none] [] w := by
  refine (bu (ls'' := [some (.ref l0), some (.ref l1), some (.ref l2), some (.ref l3), some (.int l4), none, some (.double l6), none]) (st' := [.double l6]) bf269_1887 bf269_1889 rfl rfl).trans ?_
  refine (bu (ls'' := [some (.ref l0), some (.ref l1), some (.ref l2), some (.ref l3), some (.int l4), none, none, none]) (st' := [.double l6, .double l6]) bf269_1889 bf269_1891 rfl rfl).trans ?_
  refine (bu (ls'' := [some (.ref l0), some (.ref l1), some (.ref l2), some (.ref l3), some (.int l4), none, none, none]) (st' := [.int (Op.cmpValue (FP.dcmp l6 l6) .l)]) bf269_1891 bf269_1892 rfl rfl).trans ?_
  exact bifc bf269_1892 rfl bf269_1897 bf269_1895 rfl rfl rfl
theorem bk269_262 {w : am_Wd} {l0 : Nat} {l1 : Nat} {l2 : Nat} {l3 : Nat} {l4 : Int32} : am_run 269 262 [some (.ref l0), some (.ref l1), some (.ref l2), some (.ref l3), some (.int l4), none, none, none] [] w = am_run 269 2191 [some (.ref l0), some (.ref l1), some (.ref l2), some (.ref l3), some (.int l4), none, none, none] [] w := by
  refine (bu (ls'' := [some (.ref l0), some (.ref l1), some (.ref l2), some (.ref l3), some (.int l4), none, none, none]) (st' := []) bf269_262 bf269_2191 rfl rfl).trans ?_
  rfl
theorem bk269_249 {w : am_Wd} {l0 : Nat} {l1 : Nat} {l2 : Nat} {l3 : Nat} {l4 : Int32} {l6 : Int32} : am_run 269 249 [some (.ref l0), some (.ref l1), some (.ref l2), some (.ref l3), some (.int l4), none, some (.int l6), none] [] w = (am_gf w l3 9 0).bind fun v => am_run 269 253 [some (.ref l0), some (.ref l1), some (.ref l2), some (.ref l3), some (.int l4), none, some (.int l6), none] (v :: []) w := by
  refine (bu (ls'' := [some (.ref l0), some (.ref l1), some (.ref l2), some (.ref l3), some (.int l4), none, some (.int l6), none]) (st' := [.ref l3]) bf269_249 bf269_250 rfl rfl).trans ?_
  exact bh bf269_250 bf269_253 rfl (fun _ _ => am_ge_rf w) rfl
theorem bk269_390 {w : am_Wd} {l0 : Nat} {l1 : Nat} {l2 : Nat} {l3 : Nat} {l4 : Int32} {l5 : Int32} {s0 : Int32} {s1 : Int32} {s2 : Int32} {s3 : Nat} : am_run 269 390 [some (.ref l0), some (.ref l1), some (.ref l2), some (.ref l3), some (.int l4), some (.int l5), none, none] [.int s0, .int s1, .int s2, .ref s3] w = if s0 = nI 0 then am_run 269 397 [some (.ref l0), some (.ref l1), some (.ref l2), some (.ref l3), some (.int l4), some (.int l5), none, none] [.int s1, .int s2, .ref s3] w else am_run 269 393 [some (.ref l0), some (.ref l1), some (.ref l2), some (.ref l3), some (.int l4), some (.int l5), none, none] [.int s1, .int s2, .ref s3] w := by
  exact bifc bf269_390 rfl bf269_397 bf269_393 rfl rfl rfl
theorem bk269_507 {w : am_Wd} {l0 : Nat} {l1 : Nat} {l2 : Nat} {l3 : Nat} {l4 : Int32} {l5 : Int32} {s0 : Int32} {s1 : Int32} {s2 : Int32} {s3 : Int32} {s4 : Nat} : am_run 269 507 [some (.ref l0), some (.ref l1), some (.ref l2), some (.ref l3), some (.int l4), some (.int l5), none, none] [.int s0, .int s1, .int s2, .int s3, .ref s4] w = (am_kf w s4 11).bind fun _ => (am_x 207 [.ref s4, .int s3, .int s2, .int s1, .int s0] w).bind fun r => bct r fun v w' => am_run 269 510 [some (.ref l0), some (.ref l1), some (.ref l2), some (.ref l3), some (.int l4), some (.int l5), none, none] (v.toList ++ []) w' := by
  exact bkV bf269_507 bf269_510 rfl (by decide +kernel) (Nat.le_of_ble_eq_true rfl) rfl (bhd rfl)
theorem bk269_633 {w : am_Wd} {l0 : Nat} {l1 : Nat} {l2 : Nat} {l3 : Nat} {l4 : Int32} : am_run 269 633 [some (.ref l0), some (.ref l1), some (.ref l2), some (.ref l3), some (.int l4), none, none, none] [] w = am_run 269 2191 [some (.ref l0), some (.ref l1), some (.ref l2), some (.ref l3), some (.int l4), none, none, none] [] w := by
  refine (bu (ls'' := [some (.ref l0), some (.ref l1), some (.ref l2), some (.ref l3), some (.int l4), none, none, none]) (st' := []) bf269_633 bf269_2191 rfl rfl).trans ?_
  rfl
theorem bk269_613 {w : am_Wd} {l0 : Nat} {l1 : Nat} {l2 : Nat} {l3 : Nat} {l4 : Int32} {l6 : Int32} : am_run 269 613 [some (.ref l0), some (.ref l1), some (.ref l2), some (.ref l3), some (.int l4), none, some (.int l6), none] [] w = (am_gf w l3 9 0).bind fun v => am_run 269 617 [some (.ref l0), some (.ref l1), some (.ref l2), some (.ref l3), some (.int l4), none, some (.int l6), none] (v :: []) w := by
  refine (bu (ls'' := [some (.ref l0), some (.ref l1), some (.ref l2), some (.ref l3), some (.int l4), none, some (.int l6), none]) (st' := [.ref l3]) bf269_613 bf269_614 rfl rfl).trans ?_
  exact bh bf269_614 bf269_617 rfl (fun _ _ => am_ge_rf w) rfl
theorem bk269_704 {w : am_Wd} {l0 : Nat} {l1 : Nat} {l2 : Nat} {l3 : Nat} {l4 : Int32} {l5 : Int32} {s0 : Int32} {s1 : Int32} {s2 : Int32} {s3 : Nat} : am_run 269 704 [some (.ref l0), some (.ref l1), some (.ref l2), some (.ref l3), some (.int l4), some (.int l5), none, none] [.int s0, .int s1, .int s2, .ref s3] w = if s0 = nI 0 then am_run 269 711 [some (.ref l0), some (.ref l1), some (.ref l2), some (.ref l3), some (.int l4), some (.int l5), none, none] [.int s1, .int s2, .ref s3] w else am_run 269 707 [some (.ref l0), some (.ref l1), some (.ref l2), some (.ref l3), some (.int l4), some (.int l5), none, none] [.int s1, .int s2, .ref s3] w := by
  exact bifc bf269_704 rfl bf269_711 bf269_707 rfl rfl rfl
theorem bk269_831 {w : am_Wd} {l0 : Nat} {l1 : Nat} {l2 : Nat} {l3 : Nat} {l4 : Int32} : am_run 269 831 [some (.ref l0), some (.ref l1), some (.ref l2), some (.ref l3), some (.int l4), none, none, none] [] w = am_run 269 2191 [some (.ref l0), some (.ref l1), some (.ref l2), some (.ref l3), some (.int l4), none, none, none] [] w := by
  refine (bu (ls'' := [some (.ref l0), some (.ref l1), some (.ref l2), some (.ref l3), some (.int l4), none, none, none]) (st' := []) bf269_831 bf269_2191 rfl rfl).trans ?_
  rfl
theorem bk269_818 {w : am_Wd} {l0 : Nat} {l1 : Nat} {l2 : Nat} {l3 : Nat} {l4 : Int32} {l6 : Int32} : am_run 269 818 [some (.ref l0), some (.ref l1), some (.ref l2), some (.ref l3), some (.int l4), none, some (.int l6), none] [] w = (am_gf w l3 9 0).bind fun v => am_run 269 822 [some (.ref l0), some (.ref l1), some (.ref l2), some (.ref l3), some (.int l4), none, some (.int l6), none] (v :: []) w := by
  refine (bu (ls'' := [some (.ref l0), some (.ref l1), some (.ref l2), some (.ref l3), some (.int l4), none, some (.int l6), none]) (st' := [.ref l3]) bf269_818 bf269_819 rfl rfl).trans ?_
  exact bh bf269_819 bf269_822 rfl (fun _ _ => am_ge_rf w) rfl
theorem bk269_916 {w : am_Wd} {l0 : Nat} {l1 : Nat} {l2 : Nat} {l3 : Nat} {l4 : Int32} : am_run 269 916 [some (.ref l0), some (.ref l1), some (.ref l2), some (.ref l3), some (.int l4), none, none, none] [] w = am_run 269 2191 [some (.ref l0), some (.ref l1), some (.ref l2), some (.ref l3), some (.int l4), none, none, none] [] w := by
  refine (bu (ls'' := [some (.ref l0), some (.ref l1), some (.ref l2), some (.ref l3), some (.int l4), none, none, none]) (st' := []) bf269_916 bf269_2191 rfl rfl).trans ?_
  rfl
theorem bk269_903 {w : am_Wd} {l0 : Nat} {l1 : Nat} {l2 : Nat} {l3 : Nat} {l4 : Int32} {l6 : Int32} : am_run 269 903 [some (.ref l0), some (.ref l1), some (.ref l2), some (.ref l3), some (.int l4), none, some (.int l6), none] [] w = (am_gf w l3 9 0).bind fun v => am_run 269 907 [some (.ref l0), some (.ref l1), some (.ref l2), some (.ref l3), some (.int l4), none, some (.int l6), none] (v :: []) w := by
  refine (bu (ls'' := [some (.ref l0), some (.ref l1), some (.ref l2), some (.ref l3), some (.int l4), none, some (.int l6), none]) (st' := [.ref l3]) bf269_903 bf269_904 rfl rfl).trans ?_
  exact bh bf269_904 bf269_907 rfl (fun _ _ => am_ge_rf w) rfl
theorem bk269_1260 {w : am_Wd}  : am_run 269 1260 [none, none, none, none, none, none, none, none] [] w = some (.inl (some (.int (nI 0))), w) := by
  refine (bu (ls'' := [none, none, none, none, none, none, none, none]) (st' := [.int (nI 0)]) bf269_1260 bf269_1261 rfl rfl).trans ?_
  exact am_e2 bf269_1261 rfl (am_ge_rf w)
theorem bk269_1525 {w : am_Wd}  : am_run 269 1525 [none, none, none, none, none, none, none, none] [] w = some (.inl (some (.int (nI 0))), w) := by
  refine (bu (ls'' := [none, none, none, none, none, none, none, none]) (st' := [.int (nI 0)]) bf269_1525 bf269_1526 rfl rfl).trans ?_
  exact am_e2 bf269_1526 rfl (am_ge_rf w)
theorem bk269_1601 {w : am_Wd}  : am_run 269 1601 [none, none, none, none, none, none, none, none] [] w = some (.inl (some (.int (nI 0))), w) := by
  refine (bu (ls'' := [none, none, none, none, none, none, none, none]) (st' := [.int (nI 0)]) bf269_1601 bf269_1602 rfl rfl).trans ?_
  exact am_e2 bf269_1602 rfl (am_ge_rf w)
theorem bk269_1750 {w : am_Wd}  : am_run 269 1750 [none, none, none, none, none, none, none, none] [] w = some (.inl (some (.int (nI 0))), w) := by
  refine (bu (ls'' := [none, none, none, none, none, none, none, none]) (st' := [.int (nI 0)]) bf269_1750 bf269_1751 rfl rfl).trans ?_
  exact am_e2 bf269_1751 rfl (am_ge_rf w)
theorem bk269_253 {w : am_Wd} {l0 : Nat} {l1 : Nat} {l2 : Nat} {l3 : Nat} {l4 : Int32} {l6 : Int32} {s0 : Int64} : am_run 269 253 [some (.ref l0), some (.ref l1), some (.ref l2), some (.ref l3), some (.int l4), none, some (.int l6), none] [.long s0] w = if (lg_cmp s0 (Int32.toInt64 l6)) = nI 0 then am_run 269 262 [some (.ref l0), some (.ref l1), some (.ref l2), some (.ref l3), some (.int l4), none, none, none] [] w else am_run 269 260 [none, none, none, none, none, none, none, none] [] w := by
  refine (bu (ls'' := [some (.ref l0), some (.ref l1), some (.ref l2), some (.ref l3), some (.int l4), none, none, none]) (st' := [.int l6, .long s0]) bf269_253 bf269_255 rfl rfl).trans ?_
  refine (bu (ls'' := [some (.ref l0), some (.ref l1), some (.ref l2), some (.ref l3), some (.int l4), none, none, none]) (st' := [.long (Int32.toInt64 l6), .long s0]) bf269_255 bf269_256 rfl rfl).trans ?_
  refine (bu (ls'' := [some (.ref l0), some (.ref l1), some (.ref l2), some (.ref l3), some (.int l4), none, none, none]) (st' := [.int (lg_cmp s0 (Int32.toInt64 l6))]) bf269_256 bf269_257 rfl rfl).trans ?_
  exact bifc bf269_257 rfl bf269_262 bf269_260 rfl rfl rfl
theorem bk269_397 {w : am_Wd} {l0 : Nat} {l1 : Nat} {l2 : Nat} {l3 : Nat} {l4 : Int32} {l5 : Int32} {s0 : Int32} {s1 : Int32} {s2 : Nat} : am_run 269 397 [some (.ref l0), some (.ref l1), some (.ref l2), some (.ref l3), some (.int l4), some (.int l5), none, none] [.int s0, .int s1, .ref s2] w = am_run 269 398 [some (.ref l0), some (.ref l1), some (.ref l2), some (.ref l3), some (.int l4), some (.int l5), none, none] [.int (nI 0), .int s0, .int s1, .ref s2] w := by
  refine (bu (ls'' := [some (.ref l0), some (.ref l1), some (.ref l2), some (.ref l3), some (.int l4), some (.int l5), none, none]) (st' := [.int (nI 0), .int s0, .int s1, .ref s2]) bf269_397 bf269_398 rfl rfl).trans ?_
  rfl
theorem bk269_393 {w : am_Wd} {l0 : Nat} {l1 : Nat} {l2 : Nat} {l3 : Nat} {l4 : Int32} {l5 : Int32} {s0 : Int32} {s1 : Int32} {s2 : Nat} : am_run 269 393 [some (.ref l0), some (.ref l1), some (.ref l2), some (.ref l3), some (.int l4), some (.int l5), none, none] [.int s0, .int s1, .ref s2] w = am_run 269 398 [some (.ref l0), some (.ref l1), some (.ref l2), some (.ref l3), some (.int l4), some (.int l5), none, none] [.int (nI 1), .int s0, .int s1, .ref s2] w := by
  refine (bu (ls'' := [some (.ref l0), some (.ref l1), some (.ref l2), some (.ref l3), some (.int l4), some (.int l5), none, none]) (st' := [.int (nI 1), .int s0, .int s1, .ref s2]) bf269_393 bf269_394 rfl rfl).trans ?_
  refine (bu (ls'' := [some (.ref l0), some (.ref l1), some (.ref l2), some (.ref l3), some (.int l4), some (.int l5), none, none]) (st' := [.int (nI 1), .int s0, .int s1, .ref s2]) bf269_394 bf269_398 rfl rfl).trans ?_
  rfl
theorem bk269_510 {w : am_Wd} {l0 : Nat} {l1 : Nat} {l2 : Nat} {l3 : Nat} {l4 : Int32} {l5 : Int32} {s0 : Int32} : am_run 269 510 [some (.ref l0), some (.ref l1), some (.ref l2), some (.ref l3), some (.int l4), some (.int l5), none, none] [.int s0] w = (am_kf w l2 11).bind fun _ => (am_x 266 [.ref l2] w).bind fun r => bct r fun v w' => am_run 269 516 [some (.ref l0), some (.ref l1), some (.ref l2), some (.ref l3), some (.int l4), some (.int l5), some (.int s0), none] (v.toList ++ []) w' := by
  refine (bu (ls'' := [some (.ref l0), some (.ref l1), some (.ref l2), some (.ref l3), some (.int l4), some (.int l5), some (.int s0), none]) (st' := []) bf269_510 bf269_512 rfl rfl).trans ?_
  refine (bu (ls'' := [some (.ref l0), some (.ref l1), some (.ref l2), some (.ref l3), some (.int l4), some (.int l5), some (.int s0), none]) (st' := [.ref l2]) bf269_512 bf269_513 rfl rfl).trans ?_
  exact bkV bf269_513 bf269_516 rfl (by decide +kernel) (Nat.le_of_ble_eq_true rfl) rfl (bhd rfl)
theorem bk269_617 {w : am_Wd} {l0 : Nat} {l1 : Nat} {l2 : Nat} {l3 : Nat} {l4 : Int32} {l6 : Int32} {s0 : Int64} : am_run 269 617 [some (.ref l0), some (.ref l1), some (.ref l2), some (.ref l3), some (.int l4), none, some (.int l6), none] [.long s0] w = if l6 = nI 0 then am_run 269 626 [some (.ref l0), some (.ref l1), some (.ref l2), some (.ref l3), some (.int l4), none, none, none] [.long s0] w else am_run 269 622 [some (.ref l0), some (.ref l1), some (.ref l2), some (.ref l3), some (.int l4), none, none, none] [.long s0] w := by
  refine (bu (ls'' := [some (.ref l0), some (.ref l1), some (.ref l2), some (.ref l3), some (.int l4), none, none, none]) (st' := [.int l6, .long s0]) bf269_617 bf269_619 rfl rfl).trans ?_
  exact bifc bf269_619 rfl bf269_626 bf269_622 rfl rfl rfl
theorem bk269_711 {w : am_Wd} {l0 : Nat} {l1 : Nat} {l2 : Nat} {l3 : Nat} {l4 : Int32} {l5 : Int32} {s0 : Int32} {s1 : Int32} {s2 : Nat} : am_run 269 711 [some (.ref l0), some (.ref l1), some (.ref l2), some (.ref l3), some (.int l4), some (.int l5), none, none] [.int s0, .int s1, .ref s2] w = am_run 269 712 [some (.ref l0), some (.ref l1), some (.ref l2), some (.ref l3), some (.int l4), some (.int l5), none, none] [.int (nI 0), .int s0, .int s1, .ref s2] w := by
  refine (bu (ls'' := [some (.ref l0), some (.ref l1), some (.ref l2), some (.ref l3), some (.int l4), some (.int l5), none, none]) (st' := [.int (nI 0), .int s0, .int s1, .ref s2]) bf269_711 bf269_712 rfl rfl).trans ?_
  rfl
theorem bk269_707 {w : am_Wd} {l0 : Nat} {l1 : Nat} {l2 : Nat} {l3 : Nat} {l4 : Int32} {l5 : Int32} {s0 : Int32} {s1 : Int32} {s2 : Nat} : am_run 269 707 [some (.ref l0), some (.ref l1), some (.ref l2), some (.ref l3), some (.int l4), some (.int l5), none, none] [.int s0, .int s1, .ref s2] w = am_run 269 712 [some (.ref l0), some (.ref l1), some (.ref l2), some (.ref l3), some (.int l4), some (.int l5), none, none] [.int (nI 1), .int s0, .int s1, .ref s2] w := by
  refine (bu (ls'' := [some (.ref l0), some (.ref l1), some (.ref l2), some (.ref l3), some (.int l4), some (.int l5), none, none]) (st' := [.int (nI 1), .int s0, .int s1, .ref s2]) bf269_707 bf269_708 rfl rfl).trans ?_
  refine (bu (ls'' := [some (.ref l0), some (.ref l1), some (.ref l2), some (.ref l3), some (.int l4), some (.int l5), none, none]) (st' := [.int (nI 1), .int s0, .int s1, .ref s2]) bf269_708 bf269_712 rfl rfl).trans ?_
  rfl
theorem bk269_822 {w : am_Wd} {l0 : Nat} {l1 : Nat} {l2 : Nat} {l3 : Nat} {l4 : Int32} {l6 : Int32} {s0 : Int64} : am_run 269 822 [some (.ref l0), some (.ref l1), some (.ref l2), some (.ref l3), some (.int l4), none, some (.int l6), none] [.long s0] w = if (lg_cmp s0 (Int32.toInt64 l6)) = nI 0 then am_run 269 831 [some (.ref l0), some (.ref l1), some (.ref l2), some (.ref l3), some (.int l4), none, none, none] [] w else am_run 269 829 [none, none, none, none, none, none, none, none] [] w := by
  refine (bu (ls'' := [some (.ref l0), some (.ref l1), some (.ref l2), some (.ref l3), some (.int l4), none, none, none]) (st' := [.int l6, .long s0]) bf269_822 bf269_824 rfl rfl).trans ?_
  refine (bu (ls'' := [some (.ref l0), some (.ref l1), some (.ref l2), some (.ref l3), some (.int l4), none, none, none]) (st' := [.long (Int32.toInt64 l6), .long s0]) bf269_824 bf269_825 rfl rfl).trans ?_
  refine (bu (ls'' := [some (.ref l0), some (.ref l1), some (.ref l2), some (.ref l3), some (.int l4), none, none, none]) (st' := [.int (lg_cmp s0 (Int32.toInt64 l6))]) bf269_825 bf269_826 rfl rfl).trans ?_
  exact bifc bf269_826 rfl bf269_831 bf269_829 rfl rfl rfl
theorem bk269_907 {w : am_Wd} {l0 : Nat} {l1 : Nat} {l2 : Nat} {l3 : Nat} {l4 : Int32} {l6 : Int32} {s0 : Int64} : am_run 269 907 [some (.ref l0), some (.ref l1), some (.ref l2), some (.ref l3), some (.int l4), none, some (.int l6), none] [.long s0] w = if (lg_cmp s0 (Int32.toInt64 l6)) = nI 0 then am_run 269 916 [some (.ref l0), some (.ref l1), some (.ref l2), some (.ref l3), some (.int l4), none, none, none] [] w else am_run 269 914 [none, none, none, none, none, none, none, none] [] w := by
  refine (bu (ls'' := [some (.ref l0), some (.ref l1), some (.ref l2), some (.ref l3), some (.int l4), none, none, none]) (st' := [.int l6, .long s0]) bf269_907 bf269_909 rfl rfl).trans ?_
  refine (bu (ls'' := [some (.ref l0), some (.ref l1), some (.ref l2), some (.ref l3), some (.int l4), none, none, none]) (st' := [.long (Int32.toInt64 l6), .long s0]) bf269_909 bf269_910 rfl rfl).trans ?_
  refine (bu (ls'' := [some (.ref l0), some (.ref l1), some (.ref l2), some (.ref l3), some (.int l4), none, none, none]) (st' := [.int (lg_cmp s0 (Int32.toInt64 l6))]) bf269_910 bf269_911 rfl rfl).trans ?_
  exact bifc bf269_911 rfl bf269_916 bf269_914 rfl rfl rfl
theorem bk269_260 {w : am_Wd}  : am_run 269 260 [none, none, none, none, none, none, none, none] [] w = some (.inl (some (.int (nI 0))), w) := by
  refine (bu (ls'' := [none, none, none, none, none, none, none, none]) (st' := [.int (nI 0)]) bf269_260 bf269_261 rfl rfl).trans ?_
  exact am_e2 bf269_261 rfl (am_ge_rf w)
theorem bk269_398 {w : am_Wd} {l0 : Nat} {l1 : Nat} {l2 : Nat} {l3 : Nat} {l4 : Int32} {l5 : Int32} {s0 : Int32} {s1 : Int32} {s2 : Int32} {s3 : Nat} : am_run 269 398 [some (.ref l0), some (.ref l1), some (.ref l2), some (.ref l3), some (.int l4), some (.int l5), none, none] [.int s0, .int s1, .int s2, .ref s3] w = (am_kf w s3 11).bind fun _ => (am_x 144 [.ref s3, .int s2, .int s1, .int s0] w).bind fun r => bct r fun v w' => am_run 269 401 [some (.ref l0), some (.ref l1), some (.ref l2), some (.ref l3), some (.int l4), some (.int l5), none, none] (v.toList ++ []) w' := by
  exact bkV bf269_398 bf269_401 rfl (by decide +kernel) (Nat.le_of_ble_eq_true rfl) rfl (bhd rfl)
theorem bk269_516 {w : am_Wd} {l0 : Nat} {l1 : Nat} {l2 : Nat} {l3 : Nat} {l4 : Int32} {l5 : Int32} {l6 : Int32} {s0 : Int32} : am_run 269 516 [some (.ref l0), some (.ref l1), some (.ref l2), some (.ref l3), some (.int l4), some (.int l5), some (.int l6), none] [.int s0] w = if s0 = l5 then am_run 269 523 [some (.ref l0), some (.ref l1), some (.ref l2), some (.ref l3), some (.int l4), some (.int l5), some (.int l6), none] [] w else am_run 269 521 [none, none, none, none, none, none, none, none] [] w := by
  refine (bu (ls'' := [some (.ref l0), some (.ref l1), some (.ref l2), some (.ref l3), some (.int l4), some (.int l5), some (.int l6), none]) (st' := [.int l5, .int s0]) bf269_516 bf269_518 rfl rfl).trans ?_
  exact bic bf269_518 rfl bf269_523 bf269_521 rfl rfl rfl
theorem bk269_626 {w : am_Wd} {l0 : Nat} {l1 : Nat} {l2 : Nat} {l3 : Nat} {l4 : Int32} {s0 : Int64} : am_run 269 626 [some (.ref l0), some (.ref l1), some (.ref l2), some (.ref l3), some (.int l4), none, none, none] [.long s0] w = am_run 269 627 [some (.ref l0), some (.ref l1), some (.ref l2), some (.ref l3), some (.int l4), none, none, none] [.long (lN 0), .long s0] w := by
  refine (bu (ls'' := [some (.ref l0), some (.ref l1), some (.ref l2), some (.ref l3), some (.int l4), none, none, none]) (st' := [.long (lN 0), .long s0]) bf269_626 bf269_627 rfl rfl).trans ?_
  rfl
theorem bk269_622 {w : am_Wd} {l0 : Nat} {l1 : Nat} {l2 : Nat} {l3 : Nat} {l4 : Int32} {s0 : Int64} : am_run 269 622 [some (.ref l0), some (.ref l1), some (.ref l2), some (.ref l3), some (.int l4), none, none, none] [.long s0] w = am_run 269 627 [some (.ref l0), some (.ref l1), some (.ref l2), some (.ref l3), some (.int l4), none, none, none] [.long (lN 1), .long s0] w := by
  refine (bu (ls'' := [some (.ref l0), some (.ref l1), some (.ref l2), some (.ref l3), some (.int l4), none, none, none]) (st' := [.long (lN 1), .long s0]) bf269_622 bf269_623 rfl rfl).trans ?_
  refine (bu (ls'' := [some (.ref l0), some (.ref l1), some (.ref l2), some (.ref l3), some (.int l4), none, none, none]) (st' := [.long (lN 1), .long s0]) bf269_623 bf269_627 rfl rfl).trans ?_
  rfl
theorem bk269_712 {w : am_Wd} {l0 : Nat} {l1 : Nat} {l2 : Nat} {l3 : Nat} {l4 : Int32} {l5 : Int32} {s0 : Int32} {s1 : Int32} {s2 : Int32} {s3 : Nat} : am_run 269 712 [some (.ref l0), some (.ref l1), some (.ref l2), some (.ref l3), some (.int l4), some (.int l5), none, none] [.int s0, .int s1, .int s2, .ref s3] w = (am_kf w s3 11).bind fun _ => (am_x 261 [.ref s3, .int s2, .int s1, .int s0] w).bind fun r => bct r fun v w' => am_run 269 715 [some (.ref l0), some (.ref l1), some (.ref l2), some (.ref l3), some (.int l4), some (.int l5), none, none] (v.toList ++ []) w' := by
  exact bkV bf269_712 bf269_715 rfl (by decide +kernel) (Nat.le_of_ble_eq_true rfl) rfl (bhd rfl)
theorem bk269_829 {w : am_Wd}  : am_run 269 829 [none, none, none, none, none, none, none, none] [] w = some (.inl (some (.int (nI 0))), w) := by
  refine (bu (ls'' := [none, none, none, none, none, none, none, none]) (st' := [.int (nI 0)]) bf269_829 bf269_830 rfl rfl).trans ?_
  exact am_e2 bf269_830 rfl (am_ge_rf w)
theorem bk269_914 {w : am_Wd}  : am_run 269 914 [none, none, none, none, none, none, none, none] [] w = some (.inl (some (.int (nI 0))), w) := by
  refine (bu (ls'' := [none, none, none, none, none, none, none, none]) (st' := [.int (nI 0)]) bf269_914 bf269_915 rfl rfl).trans ?_
  exact am_e2 bf269_915 rfl (am_ge_rf w)
theorem bk269_401 {w : am_Wd} {l0 : Nat} {l1 : Nat} {l2 : Nat} {l3 : Nat} {l4 : Int32} {l5 : Int32} {s0 : Int32} : am_run 269 401 [some (.ref l0), some (.ref l1), some (.ref l2), some (.ref l3), some (.int l4), some (.int l5), none, none] [.int s0] w = (am_kf w l2 11).bind fun _ => (am_x 266 [.ref l2] w).bind fun r => bct r fun v w' => am_run 269 407 [some (.ref l0), some (.ref l1), some (.ref l2), some (.ref l3), some (.int l4), some (.int l5), some (.int s0), none] (v.toList ++ []) w' := by
  refine (bu (ls'' := [some (.ref l0), some (.ref l1), some (.ref l2), some (.ref l3), some (.int l4), some (.int l5), some (.int s0), none]) (st' := []) bf269_401 bf269_403 rfl rfl).trans ?_
  refine (bu (ls'' := [some (.ref l0), some (.ref l1), some (.ref l2), some (.ref l3), some (.int l4), some (.int l5), some (.int s0), none]) (st' := [.ref l2]) bf269_403 bf269_404 rfl rfl).trans ?_
  exact bkV bf269_404 bf269_407 rfl (by decide +kernel) (Nat.le_of_ble_eq_true rfl) rfl (bhd rfl)
theorem bk269_523 {w : am_Wd} {l0 : Nat} {l1 : Nat} {l2 : Nat} {l3 : Nat} {l4 : Int32} {l5 : Int32} {l6 : Int32} : am_run 269 523 [some (.ref l0), some (.ref l1), some (.ref l2), some (.ref l3), some (.int l4), some (.int l5), some (.int l6), none] [] w = if ¬ l5 = nI 0 then am_run 269 541 [some (.ref l0), some (.ref l1), some (.ref l2), some (.ref l3), some (.int l4), none, none, none] [] w else am_run 269 528 [some (.ref l0), some (.ref l1), some (.ref l2), some (.ref l3), some (.int l4), none, some (.int l6), none] [] w := by
  refine (bu (ls'' := [some (.ref l0), some (.ref l1), some (.ref l2), some (.ref l3), some (.int l4), none, some (.int l6), none]) (st' := [.int l5]) bf269_523 bf269_525 rfl rfl).trans ?_
  exact bifc bf269_525 rfl bf269_541 bf269_528 rfl rfl rfl
theorem bk269_521 {w : am_Wd}  : am_run 269 521 [none, none, none, none, none, none, none, none] [] w = some (.inl (some (.int (nI 0))), w) := by
  refine (bu (ls'' := [none, none, none, none, none, none, none, none]) (st' := [.int (nI 0)]) bf269_521 bf269_522 rfl rfl).trans ?_
  exact am_e2 bf269_522 rfl (am_ge_rf w)
theorem bk269_627 {w : am_Wd} {l0 : Nat} {l1 : Nat} {l2 : Nat} {l3 : Nat} {l4 : Int32} {s0 : Int64} {s1 : Int64} : am_run 269 627 [some (.ref l0), some (.ref l1), some (.ref l2), some (.ref l3), some (.int l4), none, none, none] [.long s0, .long s1] w = if (lg_cmp s1 s0) = nI 0 then am_run 269 633 [some (.ref l0), some (.ref l1), some (.ref l2), some (.ref l3), some (.int l4), none, none, none] [] w else am_run 269 631 [none, none, none, none, none, none, none, none] [] w := by
  refine (bu (ls'' := [some (.ref l0), some (.ref l1), some (.ref l2), some (.ref l3), some (.int l4), none, none, none]) (st' := [.int (lg_cmp s1 s0)]) bf269_627 bf269_628 rfl rfl).trans ?_
  exact bifc bf269_628 rfl bf269_633 bf269_631 rfl rfl rfl
theorem bk269_715 {w : am_Wd} {l0 : Nat} {l1 : Nat} {l2 : Nat} {l3 : Nat} {l4 : Int32} {l5 : Int32} {s0 : Int32} : am_run 269 715 [some (.ref l0), some (.ref l1), some (.ref l2), some (.ref l3), some (.int l4), some (.int l5), none, none] [.int s0] w = (am_kf w l2 11).bind fun _ => (am_x 266 [.ref l2] w).bind fun r => bct r fun v w' => am_run 269 721 [some (.ref l0), some (.ref l1), some (.ref l2), some (.ref l3), some (.int l4), some (.int l5), some (.int s0), none] (v.toList ++ []) w' := by
  refine (bu (ls'' := [some (.ref l0), some (.ref l1), some (.ref l2), some (.ref l3), some (.int l4), some (.int l5), some (.int s0), none]) (st' := []) bf269_715 bf269_717 rfl rfl).trans ?_
  refine (bu (ls'' := [some (.ref l0), some (.ref l1), some (.ref l2), some (.ref l3), some (.int l4), some (.int l5), some (.int s0), none]) (st' := [.ref l2]) bf269_717 bf269_718 rfl rfl).trans ?_
  exact bkV bf269_718 bf269_721 rfl (by decide +kernel) (Nat.le_of_ble_eq_true rfl) rfl (bhd rfl)
theorem bk269_407 {w : am_Wd} {l0 : Nat} {l1 : Nat} {l2 : Nat} {l3 : Nat} {l4 : Int32} {l5 : Int32} {l6 : Int32} {s0 : Int32} : am_run 269 407 [some (.ref l0), some (.ref l1), some (.ref l2), some (.ref l3), some (.int l4), some (.int l5), some (.int l6), none] [.int s0] w = if s0 = l5 then am_run 269 414 [some (.ref l0), some (.ref l1), some (.ref l2), some (.ref l3), some (.int l4), some (.int l5), some (.int l6), none] [] w else am_run 269 412 [none, none, none, none, none, none, none, none] [] w := by
  refine (bu (ls'' := [some (.ref l0), some (.ref l1), some (.ref l2), some (.ref l3), some (.int l4), some (.int l5), some (.int l6), none]) (st' := [.int l5, .int s0]) bf269_407 bf269_409 rfl rfl).trans ?_
  exact bic bf269_409 rfl bf269_414 bf269_412 rfl rfl rfl
theorem bk269_541 {w : am_Wd} {l0 : Nat} {l1 : Nat} {l2 : Nat} {l3 : Nat} {l4 : Int32} : am_run 269 541 [some (.ref l0), some (.ref l1), some (.ref l2), some (.ref l3), some (.int l4), none, none, none] [] w = am_run 269 2191 [some (.ref l0), some (.ref l1), some (.ref l2), some (.ref l3), some (.int l4), none, none, none] [] w := by
  refine (bu (ls'' := [some (.ref l0), some (.ref l1), some (.ref l2), some (.ref l3), some (.int l4), none, none, none]) (st' := []) bf269_541 bf269_2191 rfl rfl).trans ?_
  rfl
theorem bk269_528 {w : am_Wd} {l0 : Nat} {l1 : Nat} {l2 : Nat} {l3 : Nat} {l4 : Int32} {l6 : Int32} : am_run 269 528 [some (.ref l0), some (.ref l1), some (.ref l2), some (.ref l3), some (.int l4), none, some (.int l6), none] [] w = (am_gf w l3 9 0).bind fun v => am_run 269 532 [some (.ref l0), some (.ref l1), some (.ref l2), some (.ref l3), some (.int l4), none, some (.int l6), none] (v :: []) w := by
  refine (bu (ls'' := [some (.ref l0), some (.ref l1), some (.ref l2), some (.ref l3), some (.int l4), none, some (.int l6), none]) (st' := [.ref l3]) bf269_528 bf269_529 rfl rfl).trans ?_
  exact bh bf269_529 bf269_532 rfl (fun _ _ => am_ge_rf w) rfl
theorem bk269_631 {w : am_Wd}  : am_run 269 631 [none, none, none, none, none, none, none, none] [] w = some (.inl (some (.int (nI 0))), w) := by
  refine (bu (ls'' := [none, none, none, none, none, none, none, none]) (st' := [.int (nI 0)]) bf269_631 bf269_632 rfl rfl).trans ?_
  exact am_e2 bf269_632 rfl (am_ge_rf w)
theorem bk269_721 {w : am_Wd} {l0 : Nat} {l1 : Nat} {l2 : Nat} {l3 : Nat} {l4 : Int32} {l5 : Int32} {l6 : Int32} {s0 : Int32} : am_run 269 721 [some (.ref l0), some (.ref l1), some (.ref l2), some (.ref l3), some (.int l4), some (.int l5), some (.int l6), none] [.int s0] w = if s0 = l5 then am_run 269 728 [some (.ref l0), some (.ref l1), some (.ref l2), some (.ref l3), some (.int l4), some (.int l5), some (.int l6), none] [] w else am_run 269 726 [none, none, none, none, none, none, none, none] [] w := by
  refine (bu (ls'' := [some (.ref l0), some (.ref l1), some (.ref l2), some (.ref l3), some (.int l4), some (.int l5), some (.int l6), none]) (st' := [.int l5, .int s0]) bf269_721 bf269_723 rfl rfl).trans ?_
  exact bic bf269_723 rfl bf269_728 bf269_726 rfl rfl rfl
theorem bk269_414 {w : am_Wd} {l0 : Nat} {l1 : Nat} {l2 : Nat} {l3 : Nat} {l4 : Int32} {l5 : Int32} {l6 : Int32} : am_run 269 414 [some (.ref l0), some (.ref l1), some (.ref l2), some (.ref l3), some (.int l4), some (.int l5), some (.int l6), none] [] w = if ¬ l5 = nI 0 then am_run 269 432 [some (.ref l0), some (.ref l1), some (.ref l2), some (.ref l3), some (.int l4), none, none, none] [] w else am_run 269 419 [some (.ref l0), some (.ref l1), some (.ref l2), some (.ref l3), some (.int l4), none, some (.int l6), none] [] w := by
  refine (bu (ls'' := [some (.ref l0), some (.ref l1), some (.ref l2), some (.ref l3), some (.int l4), none, some (.int l6), none]) (st' := [.int l5]) bf269_414 bf269_416 rfl rfl).trans ?_
  exact bifc bf269_416 rfl bf269_432 bf269_419 rfl rfl rfl
theorem bk269_412 {w : am_Wd}  : am_run 269 412 [none, none, none, none, none, none, none, none] [] w = some (.inl (some (.int (nI 0))), w) := by
  refine (bu (ls'' := [none, none, none, none, none, none, none, none]) (st' := [.int (nI 0)]) bf269_412 bf269_413 rfl rfl).trans ?_
  exact am_e2 bf269_413 rfl (am_ge_rf w)
theorem bk269_532 {w : am_Wd} {l0 : Nat} {l1 : Nat} {l2 : Nat} {l3 : Nat} {l4 : Int32} {l6 : Int32} {s0 : Int64} : am_run 269 532 [some (.ref l0), some (.ref l1), some (.ref l2), some (.ref l3), some (.int l4), none, some (.int l6), none] [.long s0] w = if (lg_cmp s0 (Int32.toInt64 l6)) = nI 0 then am_run 269 541 [some (.ref l0), some (.ref l1), some (.ref l2), some (.ref l3), some (.int l4), none, none, none] [] w else am_run 269 539 [none, none, none, none, none, none, none, none] [] w := by
  refine (bu (ls'' := [some (.ref l0), some (.ref l1), some (.ref l2), some (.ref l3), some (.int l4), none, none, none]) (st' := [.int l6, .long s0]) bf269_532 bf269_534 rfl rfl).trans ?_
  refine (bu (ls'' := [some (.ref l0), some (.ref l1), some (.ref l2), some (.ref l3), some (.int l4), none, none, none]) (st' := [.long (Int32.toInt64 l6), .long s0]) bf269_534 bf269_535 rfl rfl).trans ?_
  refine (bu (ls'' := [some (.ref l0), some (.ref l1), some (.ref l2), some (.ref l3), some (.int l4), none, none, none]) (st' := [.int (lg_cmp s0 (Int32.toInt64 l6))]) bf269_535 bf269_536 rfl rfl).trans ?_
  exact bifc bf269_536 rfl bf269_541 bf269_539 rfl rfl rfl
theorem bk269_728 {w : am_Wd} {l0 : Nat} {l1 : Nat} {l2 : Nat} {l3 : Nat} {l4 : Int32} {l5 : Int32} {l6 : Int32} : am_run 269 728 [some (.ref l0), some (.ref l1), some (.ref l2), some (.ref l3), some (.int l4), some (.int l5), some (.int l6), none] [] w = if ¬ l5 = nI 0 then am_run 269 746 [some (.ref l0), some (.ref l1), some (.ref l2), some (.ref l3), some (.int l4), none, none, none] [] w else am_run 269 733 [some (.ref l0), some (.ref l1), some (.ref l2), some (.ref l3), some (.int l4), none, some (.int l6), none] [] w := by
  refine (bu (ls'' := [some (.ref l0), some (.ref l1), some (.ref l2), some (.ref l3), some (.int l4), none, some (.int l6), none]) (st' := [.int l5]) bf269_728 bf269_730 rfl rfl).trans ?_
  exact bifc bf269_730 rfl bf269_746 bf269_733 rfl rfl rfl
theorem bk269_726 {w : am_Wd}  : am_run 269 726 [none, none, none, none, none, none, none, none] [] w = some (.inl (some (.int (nI 0))), w) := by
  refine (bu (ls'' := [none, none, none, none, none, none, none, none]) (st' := [.int (nI 0)]) bf269_726 bf269_727 rfl rfl).trans ?_
  exact am_e2 bf269_727 rfl (am_ge_rf w)
theorem bk269_432 {w : am_Wd} {l0 : Nat} {l1 : Nat} {l2 : Nat} {l3 : Nat} {l4 : Int32} : am_run 269 432 [some (.ref l0), some (.ref l1), some (.ref l2), some (.ref l3), some (.int l4), none, none, none] [] w = am_run 269 2191 [some (.ref l0), some (.ref l1), some (.ref l2), some (.ref l3), some (.int l4), none, none, none] [] w := by
  refine (bu (ls'' := [some (.ref l0), some (.ref l1), some (.ref l2), some (.ref l3), some (.int l4), none, none, none]) (st' := []) bf269_432 bf269_2191 rfl rfl).trans ?_
  rfl
theorem bk269_419 {w : am_Wd} {l0 : Nat} {l1 : Nat} {l2 : Nat} {l3 : Nat} {l4 : Int32} {l6 : Int32} : am_run 269 419 [some (.ref l0), some (.ref l1), some (.ref l2), some (.ref l3), some (.int l4), none, some (.int l6), none] [] w = (am_gf w l3 9 0).bind fun v => am_run 269 423 [some (.ref l0), some (.ref l1), some (.ref l2), some (.ref l3), some (.int l4), none, some (.int l6), none] (v :: []) w := by
  refine (bu (ls'' := [some (.ref l0), some (.ref l1), some (.ref l2), some (.ref l3), some (.int l4), none, some (.int l6), none]) (st' := [.ref l3]) bf269_419 bf269_420 rfl rfl).trans ?_
  exact bh bf269_420 bf269_423 rfl (fun _ _ => am_ge_rf w) rfl
theorem bk269_539 {w : am_Wd}  : am_run 269 539 [none, none, none, none, none, none, none, none] [] w = some (.inl (some (.int (nI 0))), w) := by
  refine (bu (ls'' := [none, none, none, none, none, none, none, none]) (st' := [.int (nI 0)]) bf269_539 bf269_540 rfl rfl).trans ?_
  exact am_e2 bf269_540 rfl (am_ge_rf w)
theorem bk269_746 {w : am_Wd} {l0 : Nat} {l1 : Nat} {l2 : Nat} {l3 : Nat} {l4 : Int32} : am_run 269 746 [some (.ref l0), some (.ref l1), some (.ref l2), some (.ref l3), some (.int l4), none, none, none] [] w = am_run 269 2191 [some (.ref l0), some (.ref l1), some (.ref l2), some (.ref l3), some (.int l4), none, none, none] [] w := by
  refine (bu (ls'' := [some (.ref l0), some (.ref l1), some (.ref l2), some (.ref l3), some (.int l4), none, none, none]) (st' := []) bf269_746 bf269_2191 rfl rfl).trans ?_
  rfl
theorem bk269_733 {w : am_Wd} {l0 : Nat} {l1 : Nat} {l2 : Nat} {l3 : Nat} {l4 : Int32} {l6 : Int32} : am_run 269 733 [some (.ref l0), some (.ref l1), some (.ref l2), some (.ref l3), some (.int l4), none, some (.int l6), none] [] w = (am_gf w l3 9 0).bind fun v => am_run 269 737 [some (.ref l0), some (.ref l1), some (.ref l2), some (.ref l3), some (.int l4), none, some (.int l6), none] (v :: []) w := by
  refine (bu (ls'' := [some (.ref l0), some (.ref l1), some (.ref l2), some (.ref l3), some (.int l4), none, some (.int l6), none]) (st' := [.ref l3]) bf269_733 bf269_734 rfl rfl).trans ?_
  exact bh bf269_734 bf269_737 rfl (fun _ _ => am_ge_rf w) rfl
theorem bk269_423 {w : am_Wd} {l0 : Nat} {l1 : Nat} {l2 : Nat} {l3 : Nat} {l4 : Int32} {l6 : Int32} {s0 : Int64} : am_run 269 423 [some (.ref l0), some (.ref l1), some (.ref l2), some (.ref l3), some (.int l4), none, some (.int l6), none] [.long s0] w = if (lg_cmp s0 (Int32.toInt64 l6)) = nI 0 then am_run 269 432 [some (.ref l0), some (.ref l1), some (.ref l2), some (.ref l3), some (.int l4), none, none, none] [] w else am_run 269 430 [none, none, none, none, none, none, none, none] [] w := by
  refine (bu (ls'' := [some (.ref l0), some (.ref l1), some (.ref l2), some (.ref l3), some (.int l4), none, none, none]) (st' := [.int l6, .long s0]) bf269_423 bf269_425 rfl rfl).trans ?_
  refine (bu (ls'' := [some (.ref l0), some (.ref l1), some (.ref l2), some (.ref l3), some (.int l4), none, none, none]) (st' := [.long (Int32.toInt64 l6), .long s0]) bf269_425 bf269_426 rfl rfl).trans ?_
  refine (bu (ls'' := [some (.ref l0), some (.ref l1), some (.ref l2), some (.ref l3), some (.int l4), none, none, none]) (st' := [.int (lg_cmp s0 (Int32.toInt64 l6))]) bf269_426 bf269_427 rfl rfl).trans ?_
  exact bifc bf269_427 rfl bf269_432 bf269_430 rfl rfl rfl
theorem bk269_737 {w : am_Wd} {l0 : Nat} {l1 : Nat} {l2 : Nat} {l3 : Nat} {l4 : Int32} {l6 : Int32} {s0 : Int64} : am_run 269 737 [some (.ref l0), some (.ref l1), some (.ref l2), some (.ref l3), some (.int l4), none, some (.int l6), none] [.long s0] w = if (lg_cmp s0 (Int32.toInt64 l6)) = nI 0 then am_run 269 746 [some (.ref l0), some (.ref l1), some (.ref l2), some (.ref l3), some (.int l4), none, none, none] [] w else am_run 269 744 [none, none, none, none, none, none, none, none] [] w := by
  refine (bu (ls'' := [some (.ref l0), some (.ref l1), some (.ref l2), some (.ref l3), some (.int l4), none, none, none]) (st' := [.int l6, .long s0]) bf269_737 bf269_739 rfl rfl).trans ?_
  refine (bu (ls'' := [some (.ref l0), some (.ref l1), some (.ref l2), some (.ref l3), some (.int l4), none, none, none]) (st' := [.long (Int32.toInt64 l6), .long s0]) bf269_739 bf269_740 rfl rfl).trans ?_
  refine (bu (ls'' := [some (.ref l0), some (.ref l1), some (.ref l2), some (.ref l3), some (.int l4), none, none, none]) (st' := [.int (lg_cmp s0 (Int32.toInt64 l6))]) bf269_740 bf269_741 rfl rfl).trans ?_
  exact bifc bf269_741 rfl bf269_746 bf269_744 rfl rfl rfl
theorem bk269_430 {w : am_Wd}  : am_run 269 430 [none, none, none, none, none, none, none, none] [] w = some (.inl (some (.int (nI 0))), w) := by
  refine (bu (ls'' := [none, none, none, none, none, none, none, none]) (st' := [.int (nI 0)]) bf269_430 bf269_431 rfl rfl).trans ?_
  exact am_e2 bf269_431 rfl (am_ge_rf w)
theorem bk269_744 {w : am_Wd}  : am_run 269 744 [none, none, none, none, none, none, none, none] [] w = some (.inl (some (.int (nI 0))), w) := by
  refine (bu (ls'' := [none, none, none, none, none, none, none, none]) (st' := [.int (nI 0)]) bf269_744 bf269_745 rfl rfl).trans ?_
  exact am_e2 bf269_745 rfl (am_ge_rf w)
theorem bx0 {w : am_Wd} {a0 : Nat} : am_x 0 [.ref a0] w = am_run 0 0 [some (.ref a0)] [] w :=
  congrArg (fun l => am_run 0 0 l [] w) (bnr (ls := am_xp [.ref a0] ++ List.replicate (am_ml 0 - (am_xp [.ref a0]).length) none) (ls' := [some (.ref a0)]) bf0_0 rfl)
theorem bx1 {w : am_Wd} {a0 : Nat} : am_x 1 [.ref a0] w = am_run 1 0 [some (.ref a0), none] [] w :=
  congrArg (fun l => am_run 1 0 l [] w) (bnr (ls := am_xp [.ref a0] ++ List.replicate (am_ml 1 - (am_xp [.ref a0]).length) none) (ls' := [some (.ref a0), none]) bf1_0 rfl)
theorem bx2 {w : am_Wd} {a0 : Nat} {a1 : Int32} : am_x 2 [.ref a0, .int a1] w = am_run 2 0 [some (.ref a0), some (.int a1), none] [] w :=
  congrArg (fun l => am_run 2 0 l [] w) (bnr (ls := am_xp [.ref a0, .int a1] ++ List.replicate (am_ml 2 - (am_xp [.ref a0, .int a1]).length) none) (ls' := [some (.ref a0), some (.int a1), none]) bf2_0 rfl)
theorem bx3 {w : am_Wd} {a0 : Nat} : am_x 3 [.ref a0] w = am_run 3 0 [some (.ref a0), none, none, none] [] w :=
  congrArg (fun l => am_run 3 0 l [] w) (bnr (ls := am_xp [.ref a0] ++ List.replicate (am_ml 3 - (am_xp [.ref a0]).length) none) (ls' := [some (.ref a0), none, none, none]) bf3_0 rfl)
theorem bx4 {w : am_Wd} {a0 : Nat} : am_x 4 [.ref a0] w = am_run 4 0 [some (.ref a0), none, none, none] [] w :=
  congrArg (fun l => am_run 4 0 l [] w) (bnr (ls := am_xp [.ref a0] ++ List.replicate (am_ml 4 - (am_xp [.ref a0]).length) none) (ls' := [some (.ref a0), none, none, none]) bf4_0 rfl)
theorem bx5 {w : am_Wd} {a0 : Nat} : am_x 5 [.ref a0] w = am_run 5 0 [some (.ref a0), none, none, none] [] w :=
  congrArg (fun l => am_run 5 0 l [] w) (bnr (ls := am_xp [.ref a0] ++ List.replicate (am_ml 5 - (am_xp [.ref a0]).length) none) (ls' := [some (.ref a0), none, none, none]) bf5_0 rfl)
theorem bx6 {w : am_Wd} {a0 : Nat} : am_x 6 [.ref a0] w = am_run 6 0 [some (.ref a0)] [] w :=
  congrArg (fun l => am_run 6 0 l [] w) (bnr (ls := am_xp [.ref a0] ++ List.replicate (am_ml 6 - (am_xp [.ref a0]).length) none) (ls' := [some (.ref a0)]) bf6_0 rfl)
theorem bx7 {w : am_Wd} {a0 : Int32} : am_x 7 [.int a0] w = am_run 7 0 [some (.int a0)] [] w :=
  congrArg (fun l => am_run 7 0 l [] w) (bnr (ls := am_xp [.int a0] ++ List.replicate (am_ml 7 - (am_xp [.int a0]).length) none) (ls' := [some (.int a0)]) bf7_0 rfl)
theorem bx8 {w : am_Wd} {a0 : Nat} {a1 : Int32} {a2 : Int32} {a3 : Int32} : am_x 8 [.ref a0, .int a1, .int a2, .int a3] w = am_run 8 0 [some (.ref a0), some (.int a1), some (.int a2), some (.int a3), none, none] [] w :=
  congrArg (fun l => am_run 8 0 l [] w) (bnr (ls := am_xp [.ref a0, .int a1, .int a2, .int a3] ++ List.replicate (am_ml 8 - (am_xp [.ref a0, .int a1, .int a2, .int a3]).length) none) (ls' := [some (.ref a0), some (.int a1), some (.int a2), some (.int a3), none, none]) bf8_0 rfl)
theorem bx9 {w : am_Wd} {a0 : Int32} {a1 : Int32} : am_x 9 [.int a0, .int a1] w = am_run 9 0 [some (.int a0), some (.int a1)] [] w :=
  congrArg (fun l => am_run 9 0 l [] w) (bnr (ls := am_xp [.int a0, .int a1] ++ List.replicate (am_ml 9 - (am_xp [.int a0, .int a1]).length) none) (ls' := [some (.int a0), some (.int a1)]) bf9_0 rfl)
theorem bx10 {w : am_Wd} {a0 : Nat} {a1 : Int32} : am_x 10 [.ref a0, .int a1] w = am_run 10 0 [some (.ref a0), some (.int a1), none, none] [] w :=
  congrArg (fun l => am_run 10 0 l [] w) (bnr (ls := am_xp [.ref a0, .int a1] ++ List.replicate (am_ml 10 - (am_xp [.ref a0, .int a1]).length) none) (ls' := [some (.ref a0), some (.int a1), none, none]) bf10_0 rfl)
theorem bx11 {w : am_Wd} {a0 : Int64} {a1 : Int32} : am_x 11 [.long a0, .int a1] w = am_run 11 0 [some (.long a0), none, some (.int a1)] [] w :=
  congrArg (fun l => am_run 11 0 l [] w) (bnr (ls := am_xp [.long a0, .int a1] ++ List.replicate (am_ml 11 - (am_xp [.long a0, .int a1]).length) none) (ls' := [some (.long a0), none, some (.int a1)]) bf11_0 rfl)
theorem bx12 {w : am_Wd}  : am_x 12 [] w = am_run 12 0 [] [] w :=
  congrArg (fun l => am_run 12 0 l [] w) (bnr (ls := am_xp [] ++ List.replicate (am_ml 12 - (am_xp []).length) none) (ls' := []) bf12_0 rfl)
theorem bx13 {w : am_Wd} {a0 : Int32} {a1 : Int32} : am_x 13 [.int a0, .int a1] w = am_run 13 0 [some (.int a0), some (.int a1), none, none] [] w :=
  congrArg (fun l => am_run 13 0 l [] w) (bnr (ls := am_xp [.int a0, .int a1] ++ List.replicate (am_ml 13 - (am_xp [.int a0, .int a1]).length) none) (ls' := [some (.int a0), some (.int a1), none, none]) bf13_0 rfl)
theorem bx14 {w : am_Wd} {a0 : Int64} {a1 : Int32} : am_x 14 [.long a0, .int a1] w = am_run 14 0 [some (.long a0), none, some (.int a1)] [] w :=
  congrArg (fun l => am_run 14 0 l [] w) (bnr (ls := am_xp [.long a0, .int a1] ++ List.replicate (am_ml 14 - (am_xp [.long a0, .int a1]).length) none) (ls' := [some (.long a0), none, some (.int a1)]) bf14_0 rfl)
theorem bx15 {w : am_Wd} {a0 : Int32} {a1 : Int32} : am_x 15 [.int a0, .int a1] w = am_run 15 0 [some (.int a0), some (.int a1)] [] w :=
  congrArg (fun l => am_run 15 0 l [] w) (bnr (ls := am_xp [.int a0, .int a1] ++ List.replicate (am_ml 15 - (am_xp [.int a0, .int a1]).length) none) (ls' := [some (.int a0), some (.int a1)]) bf15_0 rfl)
theorem bx16 {w : am_Wd} {a0 : Int32} {a1 : Int32} : am_x 16 [.int a0, .int a1] w = am_run 16 0 [some (.int a0), some (.int a1), none, none] [] w :=
  congrArg (fun l => am_run 16 0 l [] w) (bnr (ls := am_xp [.int a0, .int a1] ++ List.replicate (am_ml 16 - (am_xp [.int a0, .int a1]).length) none) (ls' := [some (.int a0), some (.int a1), none, none]) bf16_0 rfl)
theorem bx17 {w : am_Wd} {a0 : Nat} : am_x 17 [.ref a0] w = am_run 17 0 [some (.ref a0)] [] w :=
  congrArg (fun l => am_run 17 0 l [] w) (bnr (ls := am_xp [.ref a0] ++ List.replicate (am_ml 17 - (am_xp [.ref a0]).length) none) (ls' := [some (.ref a0)]) bf17_0 rfl)
theorem bx18 {w : am_Wd} {a0 : Nat} : am_x 18 [.ref a0] w = am_run 18 0 [some (.ref a0)] [] w :=
  congrArg (fun l => am_run 18 0 l [] w) (bnr (ls := am_xp [.ref a0] ++ List.replicate (am_ml 18 - (am_xp [.ref a0]).length) none) (ls' := [some (.ref a0)]) bf18_0 rfl)
theorem bx19 {w : am_Wd} {a0 : Int32} : am_x 19 [.int a0] w = am_run 19 0 [some (.int a0)] [] w :=
  congrArg (fun l => am_run 19 0 l [] w) (bnr (ls := am_xp [.int a0] ++ List.replicate (am_ml 19 - (am_xp [.int a0]).length) none) (ls' := [some (.int a0)]) bf19_0 rfl)
theorem bx20 {w : am_Wd} {a0 : Nat} {a1 : Int32} {a2 : Int32} {a3 : Int32} : am_x 20 [.ref a0, .int a1, .int a2, .int a3] w = am_run 20 0 [some (.ref a0), some (.int a1), some (.int a2), some (.int a3), none, none] [] w :=
  congrArg (fun l => am_run 20 0 l [] w) (bnr (ls := am_xp [.ref a0, .int a1, .int a2, .int a3] ++ List.replicate (am_ml 20 - (am_xp [.ref a0, .int a1, .int a2, .int a3]).length) none) (ls' := [some (.ref a0), some (.int a1), some (.int a2), some (.int a3), none, none]) bf20_0 rfl)
theorem bx21 {w : am_Wd} {a0 : Nat} {a1 : Int32} {a2 : Int32} : am_x 21 [.ref a0, .int a1, .int a2] w = am_run 21 0 [some (.ref a0), some (.int a1), some (.int a2)] [] w :=
  congrArg (fun l => am_run 21 0 l [] w) (bnr (ls := am_xp [.ref a0, .int a1, .int a2] ++ List.replicate (am_ml 21 - (am_xp [.ref a0, .int a1, .int a2]).length) none) (ls' := [some (.ref a0), some (.int a1), some (.int a2)]) bf21_0 rfl)
theorem bx22 {w : am_Wd} {a0 : Nat} {a1 : Int32} : am_x 22 [.ref a0, .int a1] w = am_run 22 0 [some (.ref a0), some (.int a1)] [] w :=
  congrArg (fun l => am_run 22 0 l [] w) (bnr (ls := am_xp [.ref a0, .int a1] ++ List.replicate (am_ml 22 - (am_xp [.ref a0, .int a1]).length) none) (ls' := [some (.ref a0), some (.int a1)]) bf22_0 rfl)
theorem bx23 {w : am_Wd} {a0 : Nat} {a1 : Int64} : am_x 23 [.ref a0, .long a1] w = am_run 23 0 [some (.ref a0), some (.long a1), none, none, none, none, none, none, none, none, none] [] w :=
  congrArg (fun l => am_run 23 0 l [] w) (bnr (ls := am_xp [.ref a0, .long a1] ++ List.replicate (am_ml 23 - (am_xp [.ref a0, .long a1]).length) none) (ls' := [some (.ref a0), some (.long a1), none, none, none, none, none, none, none, none, none]) bf23_0 rfl)
theorem bx24 {w : am_Wd} {a0 : Nat} : am_x 24 [.ref a0] w = am_run 24 0 [some (.ref a0)] [] w :=
  congrArg (fun l => am_run 24 0 l [] w) (bnr (ls := am_xp [.ref a0] ++ List.replicate (am_ml 24 - (am_xp [.ref a0]).length) none) (ls' := [some (.ref a0)]) bf24_0 rfl)
theorem bx25 {w : am_Wd} {a0 : Int64} {a1 : Int64} : am_x 25 [.long a0, .long a1] w = am_run 25 0 [some (.long a0), none, some (.long a1), none] [] w :=
  congrArg (fun l => am_run 25 0 l [] w) (bnr (ls := am_xp [.long a0, .long a1] ++ List.replicate (am_ml 25 - (am_xp [.long a0, .long a1]).length) none) (ls' := [some (.long a0), none, some (.long a1), none]) bf25_0 rfl)
theorem bx26 {w : am_Wd} {a0 : Int32} : am_x 26 [.int a0] w = am_run 26 0 [some (.int a0)] [] w :=
  congrArg (fun l => am_run 26 0 l [] w) (bnr (ls := am_xp [.int a0] ++ List.replicate (am_ml 26 - (am_xp [.int a0]).length) none) (ls' := [some (.int a0)]) bf26_0 rfl)
theorem bx27 {w : am_Wd} {a0 : Int32} : am_x 27 [.int a0] w = am_run 27 0 [some (.int a0)] [] w :=
  congrArg (fun l => am_run 27 0 l [] w) (bnr (ls := am_xp [.int a0] ++ List.replicate (am_ml 27 - (am_xp [.int a0]).length) none) (ls' := [some (.int a0)]) bf27_0 rfl)
theorem bx28 {w : am_Wd} {a0 : Int32} : am_x 28 [.int a0] w = am_run 28 0 [some (.int a0)] [] w :=
  congrArg (fun l => am_run 28 0 l [] w) (bnr (ls := am_xp [.int a0] ++ List.replicate (am_ml 28 - (am_xp [.int a0]).length) none) (ls' := [some (.int a0)]) bf28_0 rfl)
theorem bx29 {w : am_Wd} {a0 : Int32} : am_x 29 [.int a0] w = am_run 29 0 [some (.int a0)] [] w :=
  congrArg (fun l => am_run 29 0 l [] w) (bnr (ls := am_xp [.int a0] ++ List.replicate (am_ml 29 - (am_xp [.int a0]).length) none) (ls' := [some (.int a0)]) bf29_0 rfl)
theorem bx30 {w : am_Wd} {a0 : Int32} : am_x 30 [.int a0] w = am_run 30 0 [some (.int a0)] [] w :=
  congrArg (fun l => am_run 30 0 l [] w) (bnr (ls := am_xp [.int a0] ++ List.replicate (am_ml 30 - (am_xp [.int a0]).length) none) (ls' := [some (.int a0)]) bf30_0 rfl)
theorem bx31 {w : am_Wd} {a0 : Nat} {a1 : Int32} : am_x 31 [.ref a0, .int a1] w = am_run 31 0 [some (.ref a0), some (.int a1)] [] w :=
  congrArg (fun l => am_run 31 0 l [] w) (bnr (ls := am_xp [.ref a0, .int a1] ++ List.replicate (am_ml 31 - (am_xp [.ref a0, .int a1]).length) none) (ls' := [some (.ref a0), some (.int a1)]) bf31_0 rfl)
theorem bx32 {w : am_Wd} {a0 : Nat} {a1 : Nat} : am_x 32 [.ref a0, .ref a1] w = am_run 32 0 [some (.ref a0), some (.ref a1)] [] w :=
  congrArg (fun l => am_run 32 0 l [] w) (bnr (ls := am_xp [.ref a0, .ref a1] ++ List.replicate (am_ml 32 - (am_xp [.ref a0, .ref a1]).length) none) (ls' := [some (.ref a0), some (.ref a1)]) bf32_0 rfl)
theorem bx33 {w : am_Wd} {a0 : Nat} : am_x 33 [.ref a0] w = am_run 33 0 [some (.ref a0)] [] w :=
  congrArg (fun l => am_run 33 0 l [] w) (bnr (ls := am_xp [.ref a0] ++ List.replicate (am_ml 33 - (am_xp [.ref a0]).length) none) (ls' := [some (.ref a0)]) bf33_0 rfl)
theorem bx34 {w : am_Wd} {a0 : Int32} : am_x 34 [.int a0] w = am_run 34 0 [some (.int a0)] [] w :=
  congrArg (fun l => am_run 34 0 l [] w) (bnr (ls := am_xp [.int a0] ++ List.replicate (am_ml 34 - (am_xp [.int a0]).length) none) (ls' := [some (.int a0)]) bf34_0 rfl)
theorem bx35 {w : am_Wd} {a0 : Nat} : am_x 35 [.ref a0] w = am_run 35 0 [some (.ref a0)] [] w :=
  congrArg (fun l => am_run 35 0 l [] w) (bnr (ls := am_xp [.ref a0] ++ List.replicate (am_ml 35 - (am_xp [.ref a0]).length) none) (ls' := [some (.ref a0)]) bf35_0 rfl)
theorem bx36 {w : am_Wd} {a0 : Nat} : am_x 36 [.ref a0] w = am_run 36 0 [some (.ref a0)] [] w :=
  congrArg (fun l => am_run 36 0 l [] w) (bnr (ls := am_xp [.ref a0] ++ List.replicate (am_ml 36 - (am_xp [.ref a0]).length) none) (ls' := [some (.ref a0)]) bf36_0 rfl)
theorem bx37 {w : am_Wd} {a0 : Nat} : am_x 37 [.ref a0] w = am_run 37 0 [some (.ref a0), none, none, none, none, none] [] w :=
  congrArg (fun l => am_run 37 0 l [] w) (bnr (ls := am_xp [.ref a0] ++ List.replicate (am_ml 37 - (am_xp [.ref a0]).length) none) (ls' := [some (.ref a0), none, none, none, none, none]) bf37_0 rfl)
theorem bx38 {w : am_Wd} {a0 : Nat} : am_x 38 [.ref a0] w = am_run 38 0 [some (.ref a0)] [] w :=
  congrArg (fun l => am_run 38 0 l [] w) (bnr (ls := am_xp [.ref a0] ++ List.replicate (am_ml 38 - (am_xp [.ref a0]).length) none) (ls' := [some (.ref a0)]) bf38_0 rfl)
theorem bx39 {w : am_Wd} {a0 : Int32} {a1 : Int32} {a2 : Int32} : am_x 39 [.int a0, .int a1, .int a2] w = am_run 39 0 [some (.int a0), some (.int a1), some (.int a2)] [] w :=
  congrArg (fun l => am_run 39 0 l [] w) (bnr (ls := am_xp [.int a0, .int a1, .int a2] ++ List.replicate (am_ml 39 - (am_xp [.int a0, .int a1, .int a2]).length) none) (ls' := [some (.int a0), some (.int a1), some (.int a2)]) bf39_0 rfl)
theorem bx40 {w : am_Wd} {a0 : Nat} {a1 : Int32} {a2 : Int32} : am_x 40 [.ref a0, .int a1, .int a2] w = am_run 40 0 [some (.ref a0), some (.int a1), some (.int a2)] [] w :=
  congrArg (fun l => am_run 40 0 l [] w) (bnr (ls := am_xp [.ref a0, .int a1, .int a2] ++ List.replicate (am_ml 40 - (am_xp [.ref a0, .int a1, .int a2]).length) none) (ls' := [some (.ref a0), some (.int a1), some (.int a2)]) bf40_0 rfl)
theorem bx41 {w : am_Wd} {a0 : Int32} : am_x 41 [.int a0] w = am_run 41 0 [some (.int a0)] [] w :=
  congrArg (fun l => am_run 41 0 l [] w) (bnr (ls := am_xp [.int a0] ++ List.replicate (am_ml 41 - (am_xp [.int a0]).length) none) (ls' := [some (.int a0)]) bf41_0 rfl)
theorem bx42 {w : am_Wd} {a0 : Nat} {a1 : Int32} {a2 : Int32} : am_x 42 [.ref a0, .int a1, .int a2] w = am_run 42 0 [some (.ref a0), some (.int a1), some (.int a2)] [] w :=
  congrArg (fun l => am_run 42 0 l [] w) (bnr (ls := am_xp [.ref a0, .int a1, .int a2] ++ List.replicate (am_ml 42 - (am_xp [.ref a0, .int a1, .int a2]).length) none) (ls' := [some (.ref a0), some (.int a1), some (.int a2)]) bf42_0 rfl)
theorem bx43 {w : am_Wd} {a0 : Int32} {a1 : Int32} : am_x 43 [.int a0, .int a1] w = am_run 43 0 [some (.int a0), some (.int a1)] [] w :=
  congrArg (fun l => am_run 43 0 l [] w) (bnr (ls := am_xp [.int a0, .int a1] ++ List.replicate (am_ml 43 - (am_xp [.int a0, .int a1]).length) none) (ls' := [some (.int a0), some (.int a1)]) bf43_0 rfl)
theorem bx44 {w : am_Wd} {a0 : Nat} : am_x 44 [.ref a0] w = am_run 44 0 [some (.ref a0), none, none, none, none, none] [] w :=
  congrArg (fun l => am_run 44 0 l [] w) (bnr (ls := am_xp [.ref a0] ++ List.replicate (am_ml 44 - (am_xp [.ref a0]).length) none) (ls' := [some (.ref a0), none, none, none, none, none]) bf44_0 rfl)
theorem bx45 {w : am_Wd} {a0 : Nat} : am_x 45 [.ref a0] w = am_run 45 0 [some (.ref a0), none] [] w :=
  congrArg (fun l => am_run 45 0 l [] w) (bnr (ls := am_xp [.ref a0] ++ List.replicate (am_ml 45 - (am_xp [.ref a0]).length) none) (ls' := [some (.ref a0), none]) bf45_0 rfl)
theorem bx46 {w : am_Wd} {a0 : Nat} {a1 : Nat} : am_x 46 [.ref a0, .ref a1] w = am_run 46 0 [some (.ref a0), some (.ref a1)] [] w :=
  congrArg (fun l => am_run 46 0 l [] w) (bnr (ls := am_xp [.ref a0, .ref a1] ++ List.replicate (am_ml 46 - (am_xp [.ref a0, .ref a1]).length) none) (ls' := [some (.ref a0), some (.ref a1)]) bf46_0 rfl)
theorem bx47 {w : am_Wd} {a0 : Nat} : am_x 47 [.ref a0] w = am_run 47 0 [some (.ref a0)] [] w :=
  congrArg (fun l => am_run 47 0 l [] w) (bnr (ls := am_xp [.ref a0] ++ List.replicate (am_ml 47 - (am_xp [.ref a0]).length) none) (ls' := [some (.ref a0)]) bf47_0 rfl)
theorem bx48 {w : am_Wd} {a0 : Nat} {a1 : Nat} {a2 : Int32} : am_x 48 [.ref a0, .ref a1, .int a2] w = am_run 48 0 [none, some (.ref a1), some (.int a2), none, none, none] [] w :=
  congrArg (fun l => am_run 48 0 l [] w) (bnr (ls := am_xp [.ref a0, .ref a1, .int a2] ++ List.replicate (am_ml 48 - (am_xp [.ref a0, .ref a1, .int a2]).length) none) (ls' := [none, some (.ref a1), some (.int a2), none, none, none]) bf48_0 rfl)
theorem bx49 {w : am_Wd} {a0 : Nat} {a1 : Nat} : am_x 49 [.ref a0, .ref a1] w = am_run 49 0 [none, some (.ref a1), none, none] [] w :=
  congrArg (fun l => am_run 49 0 l [] w) (bnr (ls := am_xp [.ref a0, .ref a1] ++ List.replicate (am_ml 49 - (am_xp [.ref a0, .ref a1]).length) none) (ls' := [none, some (.ref a1), none, none]) bf49_0 rfl)
theorem bx50 {w : am_Wd} {a0 : Int64} : am_x 50 [.long a0] w = am_run 50 0 [some (.long a0), none] [] w :=
  congrArg (fun l => am_run 50 0 l [] w) (bnr (ls := am_xp [.long a0] ++ List.replicate (am_ml 50 - (am_xp [.long a0]).length) none) (ls' := [some (.long a0), none]) bf50_0 rfl)
theorem bx51 {w : am_Wd} {a0 : Nat} : am_x 51 [.ref a0] w = am_run 51 0 [some (.ref a0)] [] w :=
  congrArg (fun l => am_run 51 0 l [] w) (bnr (ls := am_xp [.ref a0] ++ List.replicate (am_ml 51 - (am_xp [.ref a0]).length) none) (ls' := [some (.ref a0)]) bf51_0 rfl)
theorem bx52 {w : am_Wd} {a0 : Nat} : am_x 52 [.ref a0] w = am_run 52 0 [some (.ref a0)] [] w :=
  congrArg (fun l => am_run 52 0 l [] w) (bnr (ls := am_xp [.ref a0] ++ List.replicate (am_ml 52 - (am_xp [.ref a0]).length) none) (ls' := [some (.ref a0)]) bf52_0 rfl)
theorem bx53 {w : am_Wd} {a0 : Nat} {a1 : Nat} : am_x 53 [.ref a0, .ref a1] w = am_run 53 0 [some (.ref a0), some (.ref a1)] [] w :=
  congrArg (fun l => am_run 53 0 l [] w) (bnr (ls := am_xp [.ref a0, .ref a1] ++ List.replicate (am_ml 53 - (am_xp [.ref a0, .ref a1]).length) none) (ls' := [some (.ref a0), some (.ref a1)]) bf53_0 rfl)
theorem bx54 {w : am_Wd} {a0 : Nat} {a1 : Int32} : am_x 54 [.ref a0, .int a1] w = am_run 54 0 [some (.ref a0), some (.int a1)] [] w :=
  congrArg (fun l => am_run 54 0 l [] w) (bnr (ls := am_xp [.ref a0, .int a1] ++ List.replicate (am_ml 54 - (am_xp [.ref a0, .int a1]).length) none) (ls' := [some (.ref a0), some (.int a1)]) bf54_0 rfl)
theorem bx55 {w : am_Wd} {a0 : Nat} {a1 : Int32} : am_x 55 [.ref a0, .int a1] w = am_run 55 0 [some (.ref a0), some (.int a1), none, none] [] w :=
  congrArg (fun l => am_run 55 0 l [] w) (bnr (ls := am_xp [.ref a0, .int a1] ++ List.replicate (am_ml 55 - (am_xp [.ref a0, .int a1]).length) none) (ls' := [some (.ref a0), some (.int a1), none, none]) bf55_0 rfl)
theorem bx56 {w : am_Wd} {a0 : Nat} : am_x 56 [.ref a0] w = am_run 56 0 [some (.ref a0)] [] w :=
  congrArg (fun l => am_run 56 0 l [] w) (bnr (ls := am_xp [.ref a0] ++ List.replicate (am_ml 56 - (am_xp [.ref a0]).length) none) (ls' := [some (.ref a0)]) bf56_0 rfl)
theorem bx57 {w : am_Wd} {a0 : Nat} : am_x 57 [.ref a0] w = am_run 57 0 [some (.ref a0)] [] w :=
  congrArg (fun l => am_run 57 0 l [] w) (bnr (ls := am_xp [.ref a0] ++ List.replicate (am_ml 57 - (am_xp [.ref a0]).length) none) (ls' := [some (.ref a0)]) bf57_0 rfl)
theorem bx58 {w : am_Wd} {a0 : Int32} {a1 : Int32} {a2 : Nat} : am_x 58 [.int a0, .int a1, .ref a2] w = am_run 58 0 [some (.int a0), some (.int a1), some (.ref a2)] [] w :=
  congrArg (fun l => am_run 58 0 l [] w) (bnr (ls := am_xp [.int a0, .int a1, .ref a2] ++ List.replicate (am_ml 58 - (am_xp [.int a0, .int a1, .ref a2]).length) none) (ls' := [some (.int a0), some (.int a1), some (.ref a2)]) bf58_0 rfl)
theorem bx72 {w : am_Wd} {a0 : Nat} : am_x 72 [.ref a0] w = am_run 72 0 [some (.ref a0), none, none] [] w :=
  congrArg (fun l => am_run 72 0 l [] w) (bnr (ls := am_xp [.ref a0] ++ List.replicate (am_ml 72 - (am_xp [.ref a0]).length) none) (ls' := [some (.ref a0), none, none]) bf72_0 rfl)
theorem bx73 {w : am_Wd} {a0 : Nat} {a1 : Int32} : am_x 73 [.ref a0, .int a1] w = am_run 73 0 [some (.ref a0), some (.int a1)] [] w :=
  congrArg (fun l => am_run 73 0 l [] w) (bnr (ls := am_xp [.ref a0, .int a1] ++ List.replicate (am_ml 73 - (am_xp [.ref a0, .int a1]).length) none) (ls' := [some (.ref a0), some (.int a1)]) bf73_0 rfl)
theorem bx74 {w : am_Wd} {a0 : Nat} {a1 : Int32} {a2 : Int32} {a3 : Nat} : am_x 74 [.ref a0, .int a1, .int a2, .ref a3] w = am_run 74 0 [some (.ref a0), some (.int a1), some (.int a2), some (.ref a3), none, none] [] w :=
  congrArg (fun l => am_run 74 0 l [] w) (bnr (ls := am_xp [.ref a0, .int a1, .int a2, .ref a3] ++ List.replicate (am_ml 74 - (am_xp [.ref a0, .int a1, .int a2, .ref a3]).length) none) (ls' := [some (.ref a0), some (.int a1), some (.int a2), some (.ref a3), none, none]) bf74_0 rfl)
theorem bx75 {w : am_Wd} {a0 : Nat} {a1 : Int32} {a2 : Int32} {a3 : Nat} : am_x 75 [.ref a0, .int a1, .int a2, .ref a3] w = am_run 75 0 [some (.ref a0), some (.int a1), some (.int a2), some (.ref a3), none, none, none] [] w :=
  congrArg (fun l => am_run 75 0 l [] w) (bnr (ls := am_xp [.ref a0, .int a1, .int a2, .ref a3] ++ List.replicate (am_ml 75 - (am_xp [.ref a0, .int a1, .int a2, .ref a3]).length) none) (ls' := [some (.ref a0), some (.int a1), some (.int a2), some (.ref a3), none, none, none]) bf75_0 rfl)
theorem bx76 {w : am_Wd} {a0 : Int32} {a1 : Int32} : am_x 76 [.int a0, .int a1] w = am_run 76 0 [some (.int a0), some (.int a1), none, none] [] w :=
  congrArg (fun l => am_run 76 0 l [] w) (bnr (ls := am_xp [.int a0, .int a1] ++ List.replicate (am_ml 76 - (am_xp [.int a0, .int a1]).length) none) (ls' := [some (.int a0), some (.int a1), none, none]) bf76_0 rfl)
theorem bx77 {w : am_Wd} {a0 : Nat} {a1 : Int32} : am_x 77 [.ref a0, .int a1] w = am_run 77 0 [some (.ref a0), some (.int a1), none, none] [] w :=
  congrArg (fun l => am_run 77 0 l [] w) (bnr (ls := am_xp [.ref a0, .int a1] ++ List.replicate (am_ml 77 - (am_xp [.ref a0, .int a1]).length) none) (ls' := [some (.ref a0), some (.int a1), none, none]) bf77_0 rfl)
theorem bx78 {w : am_Wd} {a0 : Nat} : am_x 78 [.ref a0] w = am_run 78 0 [some (.ref a0), none] [] w :=
  congrArg (fun l => am_run 78 0 l [] w) (bnr (ls := am_xp [.ref a0] ++ List.replicate (am_ml 78 - (am_xp [.ref a0]).length) none) (ls' := [some (.ref a0), none]) bf78_0 rfl)
theorem bx79 {w : am_Wd} {a0 : Nat} {a1 : Int32} : am_x 79 [.ref a0, .int a1] w = am_run 79 0 [some (.ref a0), some (.int a1), none] [] w :=
  congrArg (fun l => am_run 79 0 l [] w) (bnr (ls := am_xp [.ref a0, .int a1] ++ List.replicate (am_ml 79 - (am_xp [.ref a0, .int a1]).length) none) (ls' := [some (.ref a0), some (.int a1), none]) bf79_0 rfl)
theorem bx80 {w : am_Wd} {a0 : Nat} : am_x 80 [.ref a0] w = am_run 80 0 [some (.ref a0)] [] w :=
  congrArg (fun l => am_run 80 0 l [] w) (bnr (ls := am_xp [.ref a0] ++ List.replicate (am_ml 80 - (am_xp [.ref a0]).length) none) (ls' := [some (.ref a0)]) bf80_0 rfl)
theorem bx81 {w : am_Wd} {a0 : Nat} {a1 : Int32} {a2 : Int32} : am_x 81 [.ref a0, .int a1, .int a2] w = am_run 81 0 [some (.ref a0), some (.int a1), some (.int a2)] [] w :=
  congrArg (fun l => am_run 81 0 l [] w) (bnr (ls := am_xp [.ref a0, .int a1, .int a2] ++ List.replicate (am_ml 81 - (am_xp [.ref a0, .int a1, .int a2]).length) none) (ls' := [some (.ref a0), some (.int a1), some (.int a2)]) bf81_0 rfl)
theorem bx82 {w : am_Wd} {a0 : Nat} {a1 : Int32} {a2 : Int32} {a3 : Int32} : am_x 82 [.ref a0, .int a1, .int a2, .int a3] w = am_run 82 0 [some (.ref a0), some (.int a1), some (.int a2), some (.int a3), none] [] w :=
  congrArg (fun l => am_run 82 0 l [] w) (bnr (ls := am_xp [.ref a0, .int a1, .int a2, .int a3] ++ List.replicate (am_ml 82 - (am_xp [.ref a0, .int a1, .int a2, .int a3]).length) none) (ls' := [some (.ref a0), some (.int a1), some (.int a2), some (.int a3), none]) bf82_0 rfl)
theorem bx83 {w : am_Wd} {a0 : Nat} : am_x 83 [.ref a0] w = am_run 83 0 [some (.ref a0)] [] w :=
  congrArg (fun l => am_run 83 0 l [] w) (bnr (ls := am_xp [.ref a0] ++ List.replicate (am_ml 83 - (am_xp [.ref a0]).length) none) (ls' := [some (.ref a0)]) bf83_0 rfl)
theorem bx84 {w : am_Wd} {a0 : Nat} : am_x 84 [.ref a0] w = am_run 84 0 [some (.ref a0)] [] w :=
  congrArg (fun l => am_run 84 0 l [] w) (bnr (ls := am_xp [.ref a0] ++ List.replicate (am_ml 84 - (am_xp [.ref a0]).length) none) (ls' := [some (.ref a0)]) bf84_0 rfl)
theorem bx85 {w : am_Wd} {a0 : Nat} : am_x 85 [.ref a0] w = am_run 85 0 [some (.ref a0)] [] w :=
  congrArg (fun l => am_run 85 0 l [] w) (bnr (ls := am_xp [.ref a0] ++ List.replicate (am_ml 85 - (am_xp [.ref a0]).length) none) (ls' := [some (.ref a0)]) bf85_0 rfl)
theorem bx86 {w : am_Wd} {a0 : Nat} {a1 : Nat} : am_x 86 [.ref a0, .ref a1] w = am_run 86 0 [some (.ref a0), some (.ref a1), none, none] [] w :=
  congrArg (fun l => am_run 86 0 l [] w) (bnr (ls := am_xp [.ref a0, .ref a1] ++ List.replicate (am_ml 86 - (am_xp [.ref a0, .ref a1]).length) none) (ls' := [some (.ref a0), some (.ref a1), none, none]) bf86_0 rfl)
theorem bx87 {w : am_Wd} {a0 : Nat} {a1 : Int32} {a2 : Int32} : am_x 87 [.ref a0, .int a1, .int a2] w = am_run 87 0 [some (.ref a0), some (.int a1), some (.int a2), none, none, none] [] w :=
  congrArg (fun l => am_run 87 0 l [] w) (bnr (ls := am_xp [.ref a0, .int a1, .int a2] ++ List.replicate (am_ml 87 - (am_xp [.ref a0, .int a1, .int a2]).length) none) (ls' := [some (.ref a0), some (.int a1), some (.int a2), none, none, none]) bf87_0 rfl)
theorem bx88 {w : am_Wd} {a0 : Int64} : am_x 88 [.long a0] w = am_run 88 0 [some (.long a0), none, none] [] w :=
  congrArg (fun l => am_run 88 0 l [] w) (bnr (ls := am_xp [.long a0] ++ List.replicate (am_ml 88 - (am_xp [.long a0]).length) none) (ls' := [some (.long a0), none, none]) bf88_0 rfl)
theorem bx89 {w : am_Wd} {a0 : Nat} : am_x 89 [.ref a0] w = am_run 89 0 [some (.ref a0)] [] w :=
  congrArg (fun l => am_run 89 0 l [] w) (bnr (ls := am_xp [.ref a0] ++ List.replicate (am_ml 89 - (am_xp [.ref a0]).length) none) (ls' := [some (.ref a0)]) bf89_0 rfl)
theorem bx90 {w : am_Wd} {a0 : Nat} {a1 : Int32} {a2 : Int32} {a3 : Int32} : am_x 90 [.ref a0, .int a1, .int a2, .int a3] w = am_run 90 0 [some (.ref a0), some (.int a1), some (.int a2), some (.int a3)] [] w :=
  congrArg (fun l => am_run 90 0 l [] w) (bnr (ls := am_xp [.ref a0, .int a1, .int a2, .int a3] ++ List.replicate (am_ml 90 - (am_xp [.ref a0, .int a1, .int a2, .int a3]).length) none) (ls' := [some (.ref a0), some (.int a1), some (.int a2), some (.int a3)]) bf90_0 rfl)
theorem bx91 {w : am_Wd} {a0 : Nat} {a1 : Int32} : am_x 91 [.ref a0, .int a1] w = am_run 91 0 [some (.ref a0), some (.int a1), none] [] w :=
  congrArg (fun l => am_run 91 0 l [] w) (bnr (ls := am_xp [.ref a0, .int a1] ++ List.replicate (am_ml 91 - (am_xp [.ref a0, .int a1]).length) none) (ls' := [some (.ref a0), some (.int a1), none]) bf91_0 rfl)
theorem bx92 {w : am_Wd} {a0 : Int32} {a1 : Int32} {a2 : Int32} : am_x 92 [.int a0, .int a1, .int a2] w = am_run 92 0 [some (.int a0), some (.int a1), some (.int a2)] [] w :=
  congrArg (fun l => am_run 92 0 l [] w) (bnr (ls := am_xp [.int a0, .int a1, .int a2] ++ List.replicate (am_ml 92 - (am_xp [.int a0, .int a1, .int a2]).length) none) (ls' := [some (.int a0), some (.int a1), some (.int a2)]) bf92_0 rfl)
theorem bx93 {w : am_Wd} {a0 : Nat} : am_x 93 [.ref a0] w = am_run 93 0 [some (.ref a0), none] [] w :=
  congrArg (fun l => am_run 93 0 l [] w) (bnr (ls := am_xp [.ref a0] ++ List.replicate (am_ml 93 - (am_xp [.ref a0]).length) none) (ls' := [some (.ref a0), none]) bf93_0 rfl)
theorem bx94 {w : am_Wd} {a0 : Nat} {a1 : Int32} : am_x 94 [.ref a0, .int a1] w = am_run 94 0 [some (.ref a0), some (.int a1), none, none] [] w :=
  congrArg (fun l => am_run 94 0 l [] w) (bnr (ls := am_xp [.ref a0, .int a1] ++ List.replicate (am_ml 94 - (am_xp [.ref a0, .int a1]).length) none) (ls' := [some (.ref a0), some (.int a1), none, none]) bf94_0 rfl)
theorem bx95 {w : am_Wd} {a0 : Nat} : am_x 95 [.ref a0] w = am_run 95 0 [some (.ref a0), none] [] w :=
  congrArg (fun l => am_run 95 0 l [] w) (bnr (ls := am_xp [.ref a0] ++ List.replicate (am_ml 95 - (am_xp [.ref a0]).length) none) (ls' := [some (.ref a0), none]) bf95_0 rfl)
theorem bx96 {w : am_Wd} {a0 : Nat} {a1 : Int32} {a2 : Int32} : am_x 96 [.ref a0, .int a1, .int a2] w = am_run 96 0 [some (.ref a0), some (.int a1), some (.int a2)] [] w :=
  congrArg (fun l => am_run 96 0 l [] w) (bnr (ls := am_xp [.ref a0, .int a1, .int a2] ++ List.replicate (am_ml 96 - (am_xp [.ref a0, .int a1, .int a2]).length) none) (ls' := [some (.ref a0), some (.int a1), some (.int a2)]) bf96_0 rfl)
theorem bx97 {w : am_Wd} {a0 : Int32} : am_x 97 [.int a0] w = am_run 97 0 [some (.int a0)] [] w :=
  congrArg (fun l => am_run 97 0 l [] w) (bnr (ls := am_xp [.int a0] ++ List.replicate (am_ml 97 - (am_xp [.int a0]).length) none) (ls' := [some (.int a0)]) bf97_0 rfl)
theorem bx98 {w : am_Wd} {a0 : Int32} : am_x 98 [.int a0] w = am_run 98 0 [some (.int a0)] [] w :=
  congrArg (fun l => am_run 98 0 l [] w) (bnr (ls := am_xp [.int a0] ++ List.replicate (am_ml 98 - (am_xp [.int a0]).length) none) (ls' := [some (.int a0)]) bf98_0 rfl)
theorem bx99 {w : am_Wd} {a0 : Nat} {a1 : Int32} : am_x 99 [.ref a0, .int a1] w = am_run 99 0 [some (.ref a0), some (.int a1)] [] w :=
  congrArg (fun l => am_run 99 0 l [] w) (bnr (ls := am_xp [.ref a0, .int a1] ++ List.replicate (am_ml 99 - (am_xp [.ref a0, .int a1]).length) none) (ls' := [some (.ref a0), some (.int a1)]) bf99_0 rfl)
theorem bx100 {w : am_Wd} {a0 : Int32} {a1 : Int32} : am_x 100 [.int a0, .int a1] w = am_run 100 0 [some (.int a0), some (.int a1), none, none] [] w :=
  congrArg (fun l => am_run 100 0 l [] w) (bnr (ls := am_xp [.int a0, .int a1] ++ List.replicate (am_ml 100 - (am_xp [.int a0, .int a1]).length) none) (ls' := [some (.int a0), some (.int a1), none, none]) bf100_0 rfl)
theorem bx101 {w : am_Wd} {a0 : Nat} {a1 : Int32} {a2 : Int32} : am_x 101 [.ref a0, .int a1, .int a2] w = am_run 101 0 [some (.ref a0), some (.int a1), some (.int a2)] [] w :=
  congrArg (fun l => am_run 101 0 l [] w) (bnr (ls := am_xp [.ref a0, .int a1, .int a2] ++ List.replicate (am_ml 101 - (am_xp [.ref a0, .int a1, .int a2]).length) none) (ls' := [some (.ref a0), some (.int a1), some (.int a2)]) bf101_0 rfl)
theorem bx102 {w : am_Wd} {a0 : Nat} {a1 : Nat} : am_x 102 [.ref a0, .ref a1] w = am_run 102 0 [some (.ref a0), some (.ref a1)] [] w :=
  congrArg (fun l => am_run 102 0 l [] w) (bnr (ls := am_xp [.ref a0, .ref a1] ++ List.replicate (am_ml 102 - (am_xp [.ref a0, .ref a1]).length) none) (ls' := [some (.ref a0), some (.ref a1)]) bf102_0 rfl)
theorem bx103 {w : am_Wd} {a0 : Nat} : am_x 103 [.ref a0] w = am_run 103 0 [some (.ref a0), none, none] [] w :=
  congrArg (fun l => am_run 103 0 l [] w) (bnr (ls := am_xp [.ref a0] ++ List.replicate (am_ml 103 - (am_xp [.ref a0]).length) none) (ls' := [some (.ref a0), none, none]) bf103_0 rfl)
theorem bx104 {w : am_Wd} {a0 : Nat} : am_x 104 [.ref a0] w = am_run 104 0 [some (.ref a0)] [] w :=
  congrArg (fun l => am_run 104 0 l [] w) (bnr (ls := am_xp [.ref a0] ++ List.replicate (am_ml 104 - (am_xp [.ref a0]).length) none) (ls' := [some (.ref a0)]) bf104_0 rfl)
theorem bx105 {w : am_Wd} {a0 : Nat} : am_x 105 [.ref a0] w = am_run 105 0 [some (.ref a0)] [] w :=
  congrArg (fun l => am_run 105 0 l [] w) (bnr (ls := am_xp [.ref a0] ++ List.replicate (am_ml 105 - (am_xp [.ref a0]).length) none) (ls' := [some (.ref a0)]) bf105_0 rfl)
theorem bx106 {w : am_Wd} {a0 : Nat} : am_x 106 [.ref a0] w = am_run 106 0 [some (.ref a0)] [] w :=
  congrArg (fun l => am_run 106 0 l [] w) (bnr (ls := am_xp [.ref a0] ++ List.replicate (am_ml 106 - (am_xp [.ref a0]).length) none) (ls' := [some (.ref a0)]) bf106_0 rfl)
theorem bx107 {w : am_Wd} {a0 : Int32} {a1 : Int32} : am_x 107 [.int a0, .int a1] w = am_run 107 0 [some (.int a0), some (.int a1)] [] w :=
  congrArg (fun l => am_run 107 0 l [] w) (bnr (ls := am_xp [.int a0, .int a1] ++ List.replicate (am_ml 107 - (am_xp [.int a0, .int a1]).length) none) (ls' := [some (.int a0), some (.int a1)]) bf107_0 rfl)
theorem bx118 {w : am_Wd} {a0 : Nat} : am_x 118 [.ref a0] w = am_run 118 0 [some (.ref a0), none] [] w :=
  congrArg (fun l => am_run 118 0 l [] w) (bnr (ls := am_xp [.ref a0] ++ List.replicate (am_ml 118 - (am_xp [.ref a0]).length) none) (ls' := [some (.ref a0), none]) bf118_0 rfl)
theorem bx119 {w : am_Wd} {a0 : Nat} {a1 : Int32} {a2 : Nat} : am_x 119 [.ref a0, .int a1, .ref a2] w = am_run 119 0 [some (.ref a0), some (.int a1), some (.ref a2), none] [] w :=
  congrArg (fun l => am_run 119 0 l [] w) (bnr (ls := am_xp [.ref a0, .int a1, .ref a2] ++ List.replicate (am_ml 119 - (am_xp [.ref a0, .int a1, .ref a2]).length) none) (ls' := [some (.ref a0), some (.int a1), some (.ref a2), none]) bf119_0 rfl)
theorem bx120 {w : am_Wd} {a0 : Nat} {a1 : Int32} {a2 : Nat} : am_x 120 [.ref a0, .int a1, .ref a2] w = am_run 120 0 [some (.ref a0), some (.int a1), some (.ref a2), none] [] w :=
  congrArg (fun l => am_run 120 0 l [] w) (bnr (ls := am_xp [.ref a0, .int a1, .ref a2] ++ List.replicate (am_ml 120 - (am_xp [.ref a0, .int a1, .ref a2]).length) none) (ls' := [some (.ref a0), some (.int a1), some (.ref a2), none]) bf120_0 rfl)
theorem bx121 {w : am_Wd} {a0 : Nat} {a1 : Int32} {a2 : Nat} : am_x 121 [.ref a0, .int a1, .ref a2] w = am_run 121 0 [some (.ref a0), some (.int a1), some (.ref a2), none, none] [] w :=
  congrArg (fun l => am_run 121 0 l [] w) (bnr (ls := am_xp [.ref a0, .int a1, .ref a2] ++ List.replicate (am_ml 121 - (am_xp [.ref a0, .int a1, .ref a2]).length) none) (ls' := [some (.ref a0), some (.int a1), some (.ref a2), none, none]) bf121_0 rfl)
theorem bx122 {w : am_Wd} {a0 : Nat} {a1 : Int32} {a2 : Nat} : am_x 122 [.ref a0, .int a1, .ref a2] w = am_run 122 0 [some (.ref a0), some (.int a1), some (.ref a2), none, none] [] w :=
  congrArg (fun l => am_run 122 0 l [] w) (bnr (ls := am_xp [.ref a0, .int a1, .ref a2] ++ List.replicate (am_ml 122 - (am_xp [.ref a0, .int a1, .ref a2]).length) none) (ls' := [some (.ref a0), some (.int a1), some (.ref a2), none, none]) bf122_0 rfl)
theorem bx123 {w : am_Wd} {a0 : Nat} {a1 : Int32} {a2 : Int32} {a3 : Int32} {a4 : Int32} : am_x 123 [.ref a0, .int a1, .int a2, .int a3, .int a4] w = am_run 123 0 [some (.ref a0), some (.int a1), some (.int a2), some (.int a3), some (.int a4), none] [] w :=
  congrArg (fun l => am_run 123 0 l [] w) (bnr (ls := am_xp [.ref a0, .int a1, .int a2, .int a3, .int a4] ++ List.replicate (am_ml 123 - (am_xp [.ref a0, .int a1, .int a2, .int a3, .int a4]).length) none) (ls' := [some (.ref a0), some (.int a1), some (.int a2), some (.int a3), some (.int a4), none]) bf123_0 rfl)
theorem bx124 {w : am_Wd} {a0 : Nat} {a1 : Int32} {a2 : Int32} : am_x 124 [.ref a0, .int a1, .int a2] w = am_run 124 0 [some (.ref a0), some (.int a1), some (.int a2), none] [] w :=
  congrArg (fun l => am_run 124 0 l [] w) (bnr (ls := am_xp [.ref a0, .int a1, .int a2] ++ List.replicate (am_ml 124 - (am_xp [.ref a0, .int a1, .int a2]).length) none) (ls' := [some (.ref a0), some (.int a1), some (.int a2), none]) bf124_0 rfl)
theorem bx125 {w : am_Wd} {a0 : Nat} {a1 : Int32} {a2 : Int32} : am_x 125 [.ref a0, .int a1, .int a2] w = am_run 125 0 [some (.ref a0), some (.int a1), some (.int a2), none] [] w :=
  congrArg (fun l => am_run 125 0 l [] w) (bnr (ls := am_xp [.ref a0, .int a1, .int a2] ++ List.replicate (am_ml 125 - (am_xp [.ref a0, .int a1, .int a2]).length) none) (ls' := [some (.ref a0), some (.int a1), some (.int a2), none]) bf125_0 rfl)
theorem bx126 {w : am_Wd} {a0 : Nat} {a1 : Int32} {a2 : Int32} {a3 : Int32} : am_x 126 [.ref a0, .int a1, .int a2, .int a3] w = am_run 126 0 [some (.ref a0), some (.int a1), some (.int a2), some (.int a3), none] [] w :=
  congrArg (fun l => am_run 126 0 l [] w) (bnr (ls := am_xp [.ref a0, .int a1, .int a2, .int a3] ++ List.replicate (am_ml 126 - (am_xp [.ref a0, .int a1, .int a2, .int a3]).length) none) (ls' := [some (.ref a0), some (.int a1), some (.int a2), some (.int a3), none]) bf126_0 rfl)
theorem bx127 {w : am_Wd} {a0 : Nat} {a1 : Int32} {a2 : Int32} {a3 : Int32} {a4 : Int32} : am_x 127 [.ref a0, .int a1, .int a2, .int a3, .int a4] w = am_run 127 0 [some (.ref a0), some (.int a1), some (.int a2), some (.int a3), some (.int a4)] [] w :=
  congrArg (fun l => am_run 127 0 l [] w) (bnr (ls := am_xp [.ref a0, .int a1, .int a2, .int a3, .int a4] ++ List.replicate (am_ml 127 - (am_xp [.ref a0, .int a1, .int a2, .int a3, .int a4]).length) none) (ls' := [some (.ref a0), some (.int a1), some (.int a2), some (.int a3), some (.int a4)]) bf127_0 rfl)
theorem bx128 {w : am_Wd} {a0 : Nat} : am_x 128 [.ref a0] w = am_run 128 0 [some (.ref a0)] [] w :=
  congrArg (fun l => am_run 128 0 l [] w) (bnr (ls := am_xp [.ref a0] ++ List.replicate (am_ml 128 - (am_xp [.ref a0]).length) none) (ls' := [some (.ref a0)]) bf128_0 rfl)
theorem bx129 {w : am_Wd} {a0 : Nat} : am_x 129 [.ref a0] w = am_run 129 0 [some (.ref a0)] [] w :=
  congrArg (fun l => am_run 129 0 l [] w) (bnr (ls := am_xp [.ref a0] ++ List.replicate (am_ml 129 - (am_xp [.ref a0]).length) none) (ls' := [some (.ref a0)]) bf129_0 rfl)
theorem bx130 {w : am_Wd} {a0 : Nat} : am_x 130 [.ref a0] w = am_run 130 0 [some (.ref a0), none] [] w :=
  congrArg (fun l => am_run 130 0 l [] w) (bnr (ls := am_xp [.ref a0] ++ List.replicate (am_ml 130 - (am_xp [.ref a0]).length) none) (ls' := [some (.ref a0), none]) bf130_0 rfl)
theorem bx131 {w : am_Wd} {a0 : Nat} {a1 : Nat} : am_x 131 [.ref a0, .ref a1] w = am_run 131 0 [some (.ref a0), some (.ref a1), none, none, none, none] [] w :=
  congrArg (fun l => am_run 131 0 l [] w) (bnr (ls := am_xp [.ref a0, .ref a1] ++ List.replicate (am_ml 131 - (am_xp [.ref a0, .ref a1]).length) none) (ls' := [some (.ref a0), some (.ref a1), none, none, none, none]) bf131_0 rfl)
theorem bx132 {w : am_Wd} {a0 : Nat} {a1 : Int32} : am_x 132 [.ref a0, .int a1] w = am_run 132 0 [some (.ref a0), some (.int a1), none, none, none, none, none, none] [] w :=
  congrArg (fun l => am_run 132 0 l [] w) (bnr (ls := am_xp [.ref a0, .int a1] ++ List.replicate (am_ml 132 - (am_xp [.ref a0, .int a1]).length) none) (ls' := [some (.ref a0), some (.int a1), none, none, none, none, none, none]) bf132_0 rfl)
theorem bx133 {w : am_Wd} {a0 : Nat} {a1 : Int32} {a2 : Int32} : am_x 133 [.ref a0, .int a1, .int a2] w = am_run 133 0 [some (.ref a0), some (.int a1), some (.int a2), none, none] [] w :=
  congrArg (fun l => am_run 133 0 l [] w) (bnr (ls := am_xp [.ref a0, .int a1, .int a2] ++ List.replicate (am_ml 133 - (am_xp [.ref a0, .int a1, .int a2]).length) none) (ls' := [some (.ref a0), some (.int a1), some (.int a2), none, none]) bf133_0 rfl)
theorem bx134 {w : am_Wd} {a0 : Nat} {a1 : Int32} : am_x 134 [.ref a0, .int a1] w = am_run 134 0 [some (.ref a0), some (.int a1), none, none] [] w :=
  congrArg (fun l => am_run 134 0 l [] w) (bnr (ls := am_xp [.ref a0, .int a1] ++ List.replicate (am_ml 134 - (am_xp [.ref a0, .int a1]).length) none) (ls' := [some (.ref a0), some (.int a1), none, none]) bf134_0 rfl)
theorem bx135 {w : am_Wd} {a0 : Nat} {a1 : Int32} : am_x 135 [.ref a0, .int a1] w = am_run 135 0 [some (.ref a0), some (.int a1)] [] w :=
  congrArg (fun l => am_run 135 0 l [] w) (bnr (ls := am_xp [.ref a0, .int a1] ++ List.replicate (am_ml 135 - (am_xp [.ref a0, .int a1]).length) none) (ls' := [some (.ref a0), some (.int a1)]) bf135_0 rfl)
theorem bx136 {w : am_Wd} {a0 : Nat} {a1 : Int32} : am_x 136 [.ref a0, .int a1] w = am_run 136 0 [some (.ref a0), some (.int a1)] [] w :=
  congrArg (fun l => am_run 136 0 l [] w) (bnr (ls := am_xp [.ref a0, .int a1] ++ List.replicate (am_ml 136 - (am_xp [.ref a0, .int a1]).length) none) (ls' := [some (.ref a0), some (.int a1)]) bf136_0 rfl)
theorem bx137 {w : am_Wd} {a0 : Nat} {a1 : Int32} {a2 : Int32} {a3 : Int32} : am_x 137 [.ref a0, .int a1, .int a2, .int a3] w = am_run 137 0 [some (.ref a0), some (.int a1), some (.int a2), some (.int a3), none] [] w :=
  congrArg (fun l => am_run 137 0 l [] w) (bnr (ls := am_xp [.ref a0, .int a1, .int a2, .int a3] ++ List.replicate (am_ml 137 - (am_xp [.ref a0, .int a1, .int a2, .int a3]).length) none) (ls' := [some (.ref a0), some (.int a1), some (.int a2), some (.int a3), none]) bf137_0 rfl)
theorem bx138 {w : am_Wd} {a0 : Nat} {a1 : Int32} {a2 : Int32} : am_x 138 [.ref a0, .int a1, .int a2] w = am_run 138 0 [some (.ref a0), some (.int a1), some (.int a2), none] [] w :=
  congrArg (fun l => am_run 138 0 l [] w) (bnr (ls := am_xp [.ref a0, .int a1, .int a2] ++ List.replicate (am_ml 138 - (am_xp [.ref a0, .int a1, .int a2]).length) none) (ls' := [some (.ref a0), some (.int a1), some (.int a2), none]) bf138_0 rfl)
theorem bx139 {w : am_Wd} {a0 : Nat} {a1 : Int32} {a2 : Int32} : am_x 139 [.ref a0, .int a1, .int a2] w = am_run 139 0 [some (.ref a0), some (.int a1), some (.int a2), none] [] w :=
  congrArg (fun l => am_run 139 0 l [] w) (bnr (ls := am_xp [.ref a0, .int a1, .int a2] ++ List.replicate (am_ml 139 - (am_xp [.ref a0, .int a1, .int a2]).length) none) (ls' := [some (.ref a0), some (.int a1), some (.int a2), none]) bf139_0 rfl)
theorem bx140 {w : am_Wd} {a0 : Nat} {a1 : Int32} {a2 : Int32} {a3 : Int32} : am_x 140 [.ref a0, .int a1, .int a2, .int a3] w = am_run 140 0 [some (.ref a0), some (.int a1), some (.int a2), some (.int a3), none] [] w :=
  congrArg (fun l => am_run 140 0 l [] w) (bnr (ls := am_xp [.ref a0, .int a1, .int a2, .int a3] ++ List.replicate (am_ml 140 - (am_xp [.ref a0, .int a1, .int a2, .int a3]).length) none) (ls' := [some (.ref a0), some (.int a1), some (.int a2), some (.int a3), none]) bf140_0 rfl)
theorem bx141 {w : am_Wd} {a0 : Nat} {a1 : Nat} : am_x 141 [.ref a0, .ref a1] w = am_run 141 0 [some (.ref a0), some (.ref a1)] [] w :=
  congrArg (fun l => am_run 141 0 l [] w) (bnr (ls := am_xp [.ref a0, .ref a1] ++ List.replicate (am_ml 141 - (am_xp [.ref a0, .ref a1]).length) none) (ls' := [some (.ref a0), some (.ref a1)]) bf141_0 rfl)
theorem bx142 {w : am_Wd} {a0 : Int32} {a1 : Int32} : am_x 142 [.int a0, .int a1] w = am_run 142 0 [some (.int a0), some (.int a1)] [] w :=
  congrArg (fun l => am_run 142 0 l [] w) (bnr (ls := am_xp [.int a0, .int a1] ++ List.replicate (am_ml 142 - (am_xp [.int a0, .int a1]).length) none) (ls' := [some (.int a0), some (.int a1)]) bf142_0 rfl)
theorem bx143 {w : am_Wd} {a0 : Int32} {a1 : Int32} : am_x 143 [.int a0, .int a1] w = am_run 143 0 [some (.int a0), some (.int a1)] [] w :=
  congrArg (fun l => am_run 143 0 l [] w) (bnr (ls := am_xp [.int a0, .int a1] ++ List.replicate (am_ml 143 - (am_xp [.int a0, .int a1]).length) none) (ls' := [some (.int a0), some (.int a1)]) bf143_0 rfl)
theorem bx144 {w : am_Wd} {a0 : Nat} {a1 : Int32} {a2 : Int32} {a3 : Int32} : am_x 144 [.ref a0, .int a1, .int a2, .int a3] w = am_run 144 0 [some (.ref a0), some (.int a1), some (.int a2), some (.int a3)] [] w :=
  congrArg (fun l => am_run 144 0 l [] w) (bnr (ls := am_xp [.ref a0, .int a1, .int a2, .int a3] ++ List.replicate (am_ml 144 - (am_xp [.ref a0, .int a1, .int a2, .int a3]).length) none) (ls' := [some (.ref a0), some (.int a1), some (.int a2), some (.int a3)]) bf144_0 rfl)
theorem bx145 {w : am_Wd} {a0 : Nat} {a1 : Int32} : am_x 145 [.ref a0, .int a1] w = am_run 145 0 [some (.ref a0), some (.int a1)] [] w :=
  congrArg (fun l => am_run 145 0 l [] w) (bnr (ls := am_xp [.ref a0, .int a1] ++ List.replicate (am_ml 145 - (am_xp [.ref a0, .int a1]).length) none) (ls' := [some (.ref a0), some (.int a1)]) bf145_0 rfl)
theorem bx146 {w : am_Wd} {a0 : Nat} {a1 : Nat} {a2 : Int32} : am_x 146 [.ref a0, .ref a1, .int a2] w = am_run 146 0 [some (.ref a0), some (.ref a1), some (.int a2), none, none, none, none, none, none] [] w :=
  congrArg (fun l => am_run 146 0 l [] w) (bnr (ls := am_xp [.ref a0, .ref a1, .int a2] ++ List.replicate (am_ml 146 - (am_xp [.ref a0, .ref a1, .int a2]).length) none) (ls' := [some (.ref a0), some (.ref a1), some (.int a2), none, none, none, none, none, none]) bf146_0 rfl)
theorem bx147 {w : am_Wd} {a0 : Nat} {a1 : Int32} {a2 : Int32} {a3 : Int32} {a4 : Nat} : am_x 147 [.ref a0, .int a1, .int a2, .int a3, .ref a4] w = am_run 147 0 [some (.ref a0), some (.int a1), some (.int a2), some (.int a3), some (.ref a4), none] [] w :=
  congrArg (fun l => am_run 147 0 l [] w) (bnr (ls := am_xp [.ref a0, .int a1, .int a2, .int a3, .ref a4] ++ List.replicate (am_ml 147 - (am_xp [.ref a0, .int a1, .int a2, .int a3, .ref a4]).length) none) (ls' := [some (.ref a0), some (.int a1), some (.int a2), some (.int a3), some (.ref a4), none]) bf147_0 rfl)
theorem bx148 {w : am_Wd} {a0 : Nat} {a1 : Int32} {a2 : Nat} : am_x 148 [.ref a0, .int a1, .ref a2] w = am_run 148 0 [some (.ref a0), some (.int a1), some (.ref a2), none] [] w :=
  congrArg (fun l => am_run 148 0 l [] w) (bnr (ls := am_xp [.ref a0, .int a1, .ref a2] ++ List.replicate (am_ml 148 - (am_xp [.ref a0, .int a1, .ref a2]).length) none) (ls' := [some (.ref a0), some (.int a1), some (.ref a2), none]) bf148_0 rfl)
theorem bx149 {w : am_Wd} {a0 : Nat} {a1 : Nat} {a2 : Nat} {a3 : Int32} : am_x 149 [.ref a0, .ref a1, .ref a2, .int a3] w = am_run 149 0 [some (.ref a0), some (.ref a1), some (.ref a2), some (.int a3)] [] w :=
  congrArg (fun l => am_run 149 0 l [] w) (bnr (ls := am_xp [.ref a0, .ref a1, .ref a2, .int a3] ++ List.replicate (am_ml 149 - (am_xp [.ref a0, .ref a1, .ref a2, .int a3]).length) none) (ls' := [some (.ref a0), some (.ref a1), some (.ref a2), some (.int a3)]) bf149_0 rfl)
theorem bx150 {w : am_Wd} {a0 : Nat} {a1 : Int32} : am_x 150 [.ref a0, .int a1] w = am_run 150 0 [some (.ref a0), some (.int a1)] [] w :=
  congrArg (fun l => am_run 150 0 l [] w) (bnr (ls := am_xp [.ref a0, .int a1] ++ List.replicate (am_ml 150 - (am_xp [.ref a0, .int a1]).length) none) (ls' := [some (.ref a0), some (.int a1)]) bf150_0 rfl)
theorem bx151 {w : am_Wd} {a0 : Nat} : am_x 151 [.ref a0] w = am_run 151 0 [some (.ref a0)] [] w :=
  congrArg (fun l => am_run 151 0 l [] w) (bnr (ls := am_xp [.ref a0] ++ List.replicate (am_ml 151 - (am_xp [.ref a0]).length) none) (ls' := [some (.ref a0)]) bf151_0 rfl)
theorem bx157 {w : am_Wd} {a0 : Nat} {a1 : Int32} : am_x 157 [.ref a0, .int a1] w = am_run 157 0 [some (.ref a0), some (.int a1), none, none, none] [] w :=
  congrArg (fun l => am_run 157 0 l [] w) (bnr (ls := am_xp [.ref a0, .int a1] ++ List.replicate (am_ml 157 - (am_xp [.ref a0, .int a1]).length) none) (ls' := [some (.ref a0), some (.int a1), none, none, none]) bf157_0 rfl)
theorem bx158 {w : am_Wd} {a0 : Nat} {a1 : Int32} {a2 : Int32} {a3 : Int32} : am_x 158 [.ref a0, .int a1, .int a2, .int a3] w = am_run 158 0 [some (.ref a0), some (.int a1), some (.int a2), some (.int a3), none, none] [] w :=
  congrArg (fun l => am_run 158 0 l [] w) (bnr (ls := am_xp [.ref a0, .int a1, .int a2, .int a3] ++ List.replicate (am_ml 158 - (am_xp [.ref a0, .int a1, .int a2, .int a3]).length) none) (ls' := [some (.ref a0), some (.int a1), some (.int a2), some (.int a3), none, none]) bf158_0 rfl)
theorem bx159 {w : am_Wd} {a0 : Nat} {a1 : Nat} {a2 : Int32} {a3 : Int32} : am_x 159 [.ref a0, .ref a1, .int a2, .int a3] w = am_run 159 0 [some (.ref a0), some (.ref a1), some (.int a2), some (.int a3), none, none, none, none, none] [] w :=
  congrArg (fun l => am_run 159 0 l [] w) (bnr (ls := am_xp [.ref a0, .ref a1, .int a2, .int a3] ++ List.replicate (am_ml 159 - (am_xp [.ref a0, .ref a1, .int a2, .int a3]).length) none) (ls' := [some (.ref a0), some (.ref a1), some (.int a2), some (.int a3), none, none, none, none, none]) bf159_0 rfl)
theorem bx160 {w : am_Wd} {a0 : Nat} {a1 : Int32} : am_x 160 [.ref a0, .int a1] w = am_run 160 0 [some (.ref a0), some (.int a1), none] [] w :=
  congrArg (fun l => am_run 160 0 l [] w) (bnr (ls := am_xp [.ref a0, .int a1] ++ List.replicate (am_ml 160 - (am_xp [.ref a0, .int a1]).length) none) (ls' := [some (.ref a0), some (.int a1), none]) bf160_0 rfl)
theorem bx161 {w : am_Wd} {a0 : Nat} {a1 : Int32} : am_x 161 [.ref a0, .int a1] w = am_run 161 0 [some (.ref a0), some (.int a1), none, none] [] w :=
  congrArg (fun l => am_run 161 0 l [] w) (bnr (ls := am_xp [.ref a0, .int a1] ++ List.replicate (am_ml 161 - (am_xp [.ref a0, .int a1]).length) none) (ls' := [some (.ref a0), some (.int a1), none, none]) bf161_0 rfl)
theorem bx162 {w : am_Wd} {a0 : Nat} : am_x 162 [.ref a0] w = am_run 162 0 [some (.ref a0), none] [] w :=
  congrArg (fun l => am_run 162 0 l [] w) (bnr (ls := am_xp [.ref a0] ++ List.replicate (am_ml 162 - (am_xp [.ref a0]).length) none) (ls' := [some (.ref a0), none]) bf162_0 rfl)
theorem bx163 {w : am_Wd} {a0 : Nat} : am_x 163 [.ref a0] w = am_run 163 0 [some (.ref a0), none] [] w :=
  congrArg (fun l => am_run 163 0 l [] w) (bnr (ls := am_xp [.ref a0] ++ List.replicate (am_ml 163 - (am_xp [.ref a0]).length) none) (ls' := [some (.ref a0), none]) bf163_0 rfl)
theorem bx164 {w : am_Wd} {a0 : Nat} {a1 : Int32} : am_x 164 [.ref a0, .int a1] w = am_run 164 0 [some (.ref a0), some (.int a1), none, none] [] w :=
  congrArg (fun l => am_run 164 0 l [] w) (bnr (ls := am_xp [.ref a0, .int a1] ++ List.replicate (am_ml 164 - (am_xp [.ref a0, .int a1]).length) none) (ls' := [some (.ref a0), some (.int a1), none, none]) bf164_0 rfl)
theorem bx165 {w : am_Wd} {a0 : Nat} {a1 : Int32} : am_x 165 [.ref a0, .int a1] w = am_run 165 0 [some (.ref a0), some (.int a1)] [] w :=
  congrArg (fun l => am_run 165 0 l [] w) (bnr (ls := am_xp [.ref a0, .int a1] ++ List.replicate (am_ml 165 - (am_xp [.ref a0, .int a1]).length) none) (ls' := [some (.ref a0), some (.int a1)]) bf165_0 rfl)
theorem bx166 {w : am_Wd} {a0 : Nat} {a1 : Int32} {a2 : Int32} {a3 : Int32} {a4 : Int32} : am_x 166 [.ref a0, .int a1, .int a2, .int a3, .int a4] w = am_run 166 0 [some (.ref a0), some (.int a1), some (.int a2), some (.int a3), some (.int a4), none] [] w :=
  congrArg (fun l => am_run 166 0 l [] w) (bnr (ls := am_xp [.ref a0, .int a1, .int a2, .int a3, .int a4] ++ List.replicate (am_ml 166 - (am_xp [.ref a0, .int a1, .int a2, .int a3, .int a4]).length) none) (ls' := [some (.ref a0), some (.int a1), some (.int a2), some (.int a3), some (.int a4), none]) bf166_0 rfl)
theorem bx167 {w : am_Wd} {a0 : Nat} {a1 : Int32} {a2 : Int32} {a3 : Int32} {a4 : Int32} : am_x 167 [.ref a0, .int a1, .int a2, .int a3, .int a4] w = am_run 167 0 [some (.ref a0), some (.int a1), some (.int a2), some (.int a3), some (.int a4), none] [] w :=
  congrArg (fun l => am_run 167 0 l [] w) (bnr (ls := am_xp [.ref a0, .int a1, .int a2, .int a3, .int a4] ++ List.replicate (am_ml 167 - (am_xp [.ref a0, .int a1, .int a2, .int a3, .int a4]).length) none) (ls' := [some (.ref a0), some (.int a1), some (.int a2), some (.int a3), some (.int a4), none]) bf167_0 rfl)
theorem bx168 {w : am_Wd} {a0 : Nat} {a1 : Int32} {a2 : Int32} : am_x 168 [.ref a0, .int a1, .int a2] w = am_run 168 0 [some (.ref a0), some (.int a1), some (.int a2), none, none] [] w :=
  congrArg (fun l => am_run 168 0 l [] w) (bnr (ls := am_xp [.ref a0, .int a1, .int a2] ++ List.replicate (am_ml 168 - (am_xp [.ref a0, .int a1, .int a2]).length) none) (ls' := [some (.ref a0), some (.int a1), some (.int a2), none, none]) bf168_0 rfl)
theorem bx169 {w : am_Wd} {a0 : Nat} {a1 : Int32} {a2 : Int32} {a3 : Int32} : am_x 169 [.ref a0, .int a1, .int a2, .int a3] w = am_run 169 0 [some (.ref a0), some (.int a1), some (.int a2), some (.int a3)] [] w :=
  congrArg (fun l => am_run 169 0 l [] w) (bnr (ls := am_xp [.ref a0, .int a1, .int a2, .int a3] ++ List.replicate (am_ml 169 - (am_xp [.ref a0, .int a1, .int a2, .int a3]).length) none) (ls' := [some (.ref a0), some (.int a1), some (.int a2), some (.int a3)]) bf169_0 rfl)
theorem bx170 {w : am_Wd} {a0 : Nat} {a1 : Int32} {a2 : Int32} : am_x 170 [.ref a0, .int a1, .int a2] w = am_run 170 0 [some (.ref a0), some (.int a1), some (.int a2), none] [] w :=
  congrArg (fun l => am_run 170 0 l [] w) (bnr (ls := am_xp [.ref a0, .int a1, .int a2] ++ List.replicate (am_ml 170 - (am_xp [.ref a0, .int a1, .int a2]).length) none) (ls' := [some (.ref a0), some (.int a1), some (.int a2), none]) bf170_0 rfl)
theorem bx171 {w : am_Wd} {a0 : Nat} {a1 : Nat} : am_x 171 [.ref a0, .ref a1] w = am_run 171 0 [some (.ref a0), some (.ref a1), none, none] [] w :=
  congrArg (fun l => am_run 171 0 l [] w) (bnr (ls := am_xp [.ref a0, .ref a1] ++ List.replicate (am_ml 171 - (am_xp [.ref a0, .ref a1]).length) none) (ls' := [some (.ref a0), some (.ref a1), none, none]) bf171_0 rfl)
theorem bx172 {w : am_Wd} {a0 : Nat} : am_x 172 [.ref a0] w = am_run 172 0 [some (.ref a0)] [] w :=
  congrArg (fun l => am_run 172 0 l [] w) (bnr (ls := am_xp [.ref a0] ++ List.replicate (am_ml 172 - (am_xp [.ref a0]).length) none) (ls' := [some (.ref a0)]) bf172_0 rfl)
theorem bx173 {w : am_Wd} {a0 : Nat} {a1 : Int32} {a2 : Int32} : am_x 173 [.ref a0, .int a1, .int a2] w = am_run 173 0 [some (.ref a0), some (.int a1), some (.int a2)] [] w :=
  congrArg (fun l => am_run 173 0 l [] w) (bnr (ls := am_xp [.ref a0, .int a1, .int a2] ++ List.replicate (am_ml 173 - (am_xp [.ref a0, .int a1, .int a2]).length) none) (ls' := [some (.ref a0), some (.int a1), some (.int a2)]) bf173_0 rfl)
theorem bx174 {w : am_Wd} {a0 : Nat} {a1 : Int32} {a2 : Int32} : am_x 174 [.ref a0, .int a1, .int a2] w = am_run 174 0 [some (.ref a0), some (.int a1), some (.int a2)] [] w :=
  congrArg (fun l => am_run 174 0 l [] w) (bnr (ls := am_xp [.ref a0, .int a1, .int a2] ++ List.replicate (am_ml 174 - (am_xp [.ref a0, .int a1, .int a2]).length) none) (ls' := [some (.ref a0), some (.int a1), some (.int a2)]) bf174_0 rfl)
theorem bx175 {w : am_Wd} {a0 : Nat} {a1 : Int32} {a2 : Int32} {a3 : Int32} : am_x 175 [.ref a0, .int a1, .int a2, .int a3] w = am_run 175 0 [some (.ref a0), some (.int a1), some (.int a2), some (.int a3)] [] w :=
  congrArg (fun l => am_run 175 0 l [] w) (bnr (ls := am_xp [.ref a0, .int a1, .int a2, .int a3] ++ List.replicate (am_ml 175 - (am_xp [.ref a0, .int a1, .int a2, .int a3]).length) none) (ls' := [some (.ref a0), some (.int a1), some (.int a2), some (.int a3)]) bf175_0 rfl)
theorem bx176 {w : am_Wd} {a0 : Nat} {a1 : Int32} {a2 : Int32} {a3 : Int32} {a4 : Int32} : am_x 176 [.ref a0, .int a1, .int a2, .int a3, .int a4] w = am_run 176 0 [some (.ref a0), some (.int a1), some (.int a2), some (.int a3), some (.int a4), none, none] [] w :=
  congrArg (fun l => am_run 176 0 l [] w) (bnr (ls := am_xp [.ref a0, .int a1, .int a2, .int a3, .int a4] ++ List.replicate (am_ml 176 - (am_xp [.ref a0, .int a1, .int a2, .int a3, .int a4]).length) none) (ls' := [some (.ref a0), some (.int a1), some (.int a2), some (.int a3), some (.int a4), none, none]) bf176_0 rfl)
theorem bx177 {w : am_Wd} {a0 : Nat} {a1 : Int32} : am_x 177 [.ref a0, .int a1] w = am_run 177 0 [some (.ref a0), some (.int a1), none, none, none] [] w :=
  congrArg (fun l => am_run 177 0 l [] w) (bnr (ls := am_xp [.ref a0, .int a1] ++ List.replicate (am_ml 177 - (am_xp [.ref a0, .int a1]).length) none) (ls' := [some (.ref a0), some (.int a1), none, none, none]) bf177_0 rfl)
theorem bx178 {w : am_Wd} {a0 : Nat} {a1 : Int32} {a2 : Int32} : am_x 178 [.ref a0, .int a1, .int a2] w = am_run 178 0 [some (.ref a0), some (.int a1), some (.int a2), none] [] w :=
  congrArg (fun l => am_run 178 0 l [] w) (bnr (ls := am_xp [.ref a0, .int a1, .int a2] ++ List.replicate (am_ml 178 - (am_xp [.ref a0, .int a1, .int a2]).length) none) (ls' := [some (.ref a0), some (.int a1), some (.int a2), none]) bf178_0 rfl)
theorem bx179 {w : am_Wd} {a0 : Nat} {a1 : Int32} : am_x 179 [.ref a0, .int a1] w = am_run 179 0 [some (.ref a0), some (.int a1), none, none] [] w :=
  congrArg (fun l => am_run 179 0 l [] w) (bnr (ls := am_xp [.ref a0, .int a1] ++ List.replicate (am_ml 179 - (am_xp [.ref a0, .int a1]).length) none) (ls' := [some (.ref a0), some (.int a1), none, none]) bf179_0 rfl)
theorem bx180 {w : am_Wd} {a0 : Nat} {a1 : Int32} {a2 : Int32} : am_x 180 [.ref a0, .int a1, .int a2] w = am_run 180 0 [some (.ref a0), some (.int a1), some (.int a2), none, none, none, none, none, none, none] [] w :=
  congrArg (fun l => am_run 180 0 l [] w) (bnr (ls := am_xp [.ref a0, .int a1, .int a2] ++ List.replicate (am_ml 180 - (am_xp [.ref a0, .int a1, .int a2]).length) none) (ls' := [some (.ref a0), some (.int a1), some (.int a2), none, none, none, none, none, none, none]) bf180_0 rfl)
theorem bx181 {w : am_Wd} {a0 : Nat} {a1 : Int32} {a2 : Int32} {a3 : Int32} : am_x 181 [.ref a0, .int a1, .int a2, .int a3] w = am_run 181 0 [some (.ref a0), some (.int a1), some (.int a2), some (.int a3), none, none] [] w :=
  congrArg (fun l => am_run 181 0 l [] w) (bnr (ls := am_xp [.ref a0, .int a1, .int a2, .int a3] ++ List.replicate (am_ml 181 - (am_xp [.ref a0, .int a1, .int a2, .int a3]).length) none) (ls' := [some (.ref a0), some (.int a1), some (.int a2), some (.int a3), none, none]) bf181_0 rfl)
theorem bx182 {w : am_Wd} {a0 : Nat} {a1 : Int32} {a2 : Int32} : am_x 182 [.ref a0, .int a1, .int a2] w = am_run 182 0 [some (.ref a0), some (.int a1), some (.int a2)] [] w :=
  congrArg (fun l => am_run 182 0 l [] w) (bnr (ls := am_xp [.ref a0, .int a1, .int a2] ++ List.replicate (am_ml 182 - (am_xp [.ref a0, .int a1, .int a2]).length) none) (ls' := [some (.ref a0), some (.int a1), some (.int a2)]) bf182_0 rfl)
theorem bx183 {w : am_Wd} {a0 : Nat} {a1 : Int32} {a2 : Int32} : am_x 183 [.ref a0, .int a1, .int a2] w = am_run 183 0 [some (.ref a0), some (.int a1), some (.int a2)] [] w :=
  congrArg (fun l => am_run 183 0 l [] w) (bnr (ls := am_xp [.ref a0, .int a1, .int a2] ++ List.replicate (am_ml 183 - (am_xp [.ref a0, .int a1, .int a2]).length) none) (ls' := [some (.ref a0), some (.int a1), some (.int a2)]) bf183_0 rfl)
theorem bx184 {w : am_Wd} {a0 : Nat} {a1 : Int32} {a2 : Int32} : am_x 184 [.ref a0, .int a1, .int a2] w = am_run 184 0 [some (.ref a0), some (.int a1), some (.int a2)] [] w :=
  congrArg (fun l => am_run 184 0 l [] w) (bnr (ls := am_xp [.ref a0, .int a1, .int a2] ++ List.replicate (am_ml 184 - (am_xp [.ref a0, .int a1, .int a2]).length) none) (ls' := [some (.ref a0), some (.int a1), some (.int a2)]) bf184_0 rfl)
theorem bx185 {w : am_Wd} {a0 : Nat} {a1 : Int32} : am_x 185 [.ref a0, .int a1] w = am_run 185 0 [some (.ref a0), some (.int a1)] [] w :=
  congrArg (fun l => am_run 185 0 l [] w) (bnr (ls := am_xp [.ref a0, .int a1] ++ List.replicate (am_ml 185 - (am_xp [.ref a0, .int a1]).length) none) (ls' := [some (.ref a0), some (.int a1)]) bf185_0 rfl)
theorem bx186 {w : am_Wd} {a0 : Nat} : am_x 186 [.ref a0] w = am_run 186 0 [some (.ref a0), none, none, none] [] w :=
  congrArg (fun l => am_run 186 0 l [] w) (bnr (ls := am_xp [.ref a0] ++ List.replicate (am_ml 186 - (am_xp [.ref a0]).length) none) (ls' := [some (.ref a0), none, none, none]) bf186_0 rfl)
theorem bx187 {w : am_Wd} {a0 : Nat} {a1 : Int32} {a2 : Int32} {a3 : Nat} : am_x 187 [.ref a0, .int a1, .int a2, .ref a3] w = am_run 187 0 [some (.ref a0), some (.int a1), some (.int a2), some (.ref a3), none] [] w :=
  congrArg (fun l => am_run 187 0 l [] w) (bnr (ls := am_xp [.ref a0, .int a1, .int a2, .ref a3] ++ List.replicate (am_ml 187 - (am_xp [.ref a0, .int a1, .int a2, .ref a3]).length) none) (ls' := [some (.ref a0), some (.int a1), some (.int a2), some (.ref a3), none]) bf187_0 rfl)
theorem bx188 {w : am_Wd} {a0 : Nat} {a1 : Int32} {a2 : Nat} : am_x 188 [.ref a0, .int a1, .ref a2] w = am_run 188 0 [some (.ref a0), some (.int a1), some (.ref a2), none] [] w :=
  congrArg (fun l => am_run 188 0 l [] w) (bnr (ls := am_xp [.ref a0, .int a1, .ref a2] ++ List.replicate (am_ml 188 - (am_xp [.ref a0, .int a1, .ref a2]).length) none) (ls' := [some (.ref a0), some (.int a1), some (.ref a2), none]) bf188_0 rfl)
theorem bx189 {w : am_Wd} {a0 : Nat} {a1 : Int32} {a2 : Nat} : am_x 189 [.ref a0, .int a1, .ref a2] w = am_run 189 0 [some (.ref a0), some (.int a1), some (.ref a2), none] [] w :=
  congrArg (fun l => am_run 189 0 l [] w) (bnr (ls := am_xp [.ref a0, .int a1, .ref a2] ++ List.replicate (am_ml 189 - (am_xp [.ref a0, .int a1, .ref a2]).length) none) (ls' := [some (.ref a0), some (.int a1), some (.ref a2), none]) bf189_0 rfl)
theorem bx190 {w : am_Wd} {a0 : Nat} {a1 : Int32} {a2 : Nat} : am_x 190 [.ref a0, .int a1, .ref a2] w = am_run 190 0 [some (.ref a0), some (.int a1), some (.ref a2), none] [] w :=
  congrArg (fun l => am_run 190 0 l [] w) (bnr (ls := am_xp [.ref a0, .int a1, .ref a2] ++ List.replicate (am_ml 190 - (am_xp [.ref a0, .int a1, .ref a2]).length) none) (ls' := [some (.ref a0), some (.int a1), some (.ref a2), none]) bf190_0 rfl)
theorem bx191 {w : am_Wd} {a0 : Nat} {a1 : Int32} {a2 : Int32} {a3 : Int32} {a4 : Nat} : am_x 191 [.ref a0, .int a1, .int a2, .int a3, .ref a4] w = am_run 191 0 [some (.ref a0), some (.int a1), some (.int a2), some (.int a3), some (.ref a4), none] [] w :=
  congrArg (fun l => am_run 191 0 l [] w) (bnr (ls := am_xp [.ref a0, .int a1, .int a2, .int a3, .ref a4] ++ List.replicate (am_ml 191 - (am_xp [.ref a0, .int a1, .int a2, .int a3, .ref a4]).length) none) (ls' := [some (.ref a0), some (.int a1), some (.int a2), some (.int a3), some (.ref a4), none]) bf191_0 rfl)
theorem bx192 {w : am_Wd} {a0 : Nat} {a1 : Int32} {a2 : Int32} {a3 : Nat} : am_x 192 [.ref a0, .int a1, .int a2, .ref a3] w = am_run 192 0 [some (.ref a0), some (.int a1), some (.int a2), some (.ref a3), none] [] w :=
  congrArg (fun l => am_run 192 0 l [] w) (bnr (ls := am_xp [.ref a0, .int a1, .int a2, .ref a3] ++ List.replicate (am_ml 192 - (am_xp [.ref a0, .int a1, .int a2, .ref a3]).length) none) (ls' := [some (.ref a0), some (.int a1), some (.int a2), some (.ref a3), none]) bf192_0 rfl)
theorem bx193 {w : am_Wd} {a0 : Nat} {a1 : Int32} {a2 : Int32} {a3 : Nat} : am_x 193 [.ref a0, .int a1, .int a2, .ref a3] w = am_run 193 0 [some (.ref a0), some (.int a1), some (.int a2), some (.ref a3), none] [] w :=
  congrArg (fun l => am_run 193 0 l [] w) (bnr (ls := am_xp [.ref a0, .int a1, .int a2, .ref a3] ++ List.replicate (am_ml 193 - (am_xp [.ref a0, .int a1, .int a2, .ref a3]).length) none) (ls' := [some (.ref a0), some (.int a1), some (.int a2), some (.ref a3), none]) bf193_0 rfl)
theorem bx194 {w : am_Wd} {a0 : Nat} {a1 : Int32} {a2 : Int32} {a3 : Int32} {a4 : Nat} : am_x 194 [.ref a0, .int a1, .int a2, .int a3, .ref a4] w = am_run 194 0 [some (.ref a0), some (.int a1), some (.int a2), some (.int a3), some (.ref a4), none] [] w :=
  congrArg (fun l => am_run 194 0 l [] w) (bnr (ls := am_xp [.ref a0, .int a1, .int a2, .int a3, .ref a4] ++ List.replicate (am_ml 194 - (am_xp [.ref a0, .int a1, .int a2, .int a3, .ref a4]).length) none) (ls' := [some (.ref a0), some (.int a1), some (.int a2), some (.int a3), some (.ref a4), none]) bf194_0 rfl)
theorem bx195 {w : am_Wd} {a0 : Nat} {a1 : Nat} : am_x 195 [.ref a0, .ref a1] w = am_run 195 0 [some (.ref a0), some (.ref a1)] [] w :=
  congrArg (fun l => am_run 195 0 l [] w) (bnr (ls := am_xp [.ref a0, .ref a1] ++ List.replicate (am_ml 195 - (am_xp [.ref a0, .ref a1]).length) none) (ls' := [some (.ref a0), some (.ref a1)]) bf195_0 rfl)
theorem bx199 {w : am_Wd} {a0 : Nat} : am_x 199 [.ref a0] w = am_run 199 0 [some (.ref a0), none] [] w :=
  congrArg (fun l => am_run 199 0 l [] w) (bnr (ls := am_xp [.ref a0] ++ List.replicate (am_ml 199 - (am_xp [.ref a0]).length) none) (ls' := [some (.ref a0), none]) bf199_0 rfl)
theorem bx200 {w : am_Wd} {a0 : Nat} {a1 : Int32} : am_x 200 [.ref a0, .int a1] w = am_run 200 0 [some (.ref a0), some (.int a1)] [] w :=
  congrArg (fun l => am_run 200 0 l [] w) (bnr (ls := am_xp [.ref a0, .int a1] ++ List.replicate (am_ml 200 - (am_xp [.ref a0, .int a1]).length) none) (ls' := [some (.ref a0), some (.int a1)]) bf200_0 rfl)
theorem bx201 {w : am_Wd} {a0 : Nat} {a1 : Int32} {a2 : Int32} : am_x 201 [.ref a0, .int a1, .int a2] w = am_run 201 0 [some (.ref a0), some (.int a1), some (.int a2), none] [] w :=
  congrArg (fun l => am_run 201 0 l [] w) (bnr (ls := am_xp [.ref a0, .int a1, .int a2] ++ List.replicate (am_ml 201 - (am_xp [.ref a0, .int a1, .int a2]).length) none) (ls' := [some (.ref a0), some (.int a1), some (.int a2), none]) bf201_0 rfl)
theorem bx202 {w : am_Wd} {a0 : Nat} {a1 : Int32} {a2 : Int32} : am_x 202 [.ref a0, .int a1, .int a2] w = am_run 202 0 [some (.ref a0), some (.int a1), some (.int a2), none] [] w :=
  congrArg (fun l => am_run 202 0 l [] w) (bnr (ls := am_xp [.ref a0, .int a1, .int a2] ++ List.replicate (am_ml 202 - (am_xp [.ref a0, .int a1, .int a2]).length) none) (ls' := [some (.ref a0), some (.int a1), some (.int a2), none]) bf202_0 rfl)
theorem bx203 {w : am_Wd} {a0 : Nat} {a1 : Int32} : am_x 203 [.ref a0, .int a1] w = am_run 203 0 [some (.ref a0), some (.int a1), none, none, none] [] w :=
  congrArg (fun l => am_run 203 0 l [] w) (bnr (ls := am_xp [.ref a0, .int a1] ++ List.replicate (am_ml 203 - (am_xp [.ref a0, .int a1]).length) none) (ls' := [some (.ref a0), some (.int a1), none, none, none]) bf203_0 rfl)
theorem bx204 {w : am_Wd} {a0 : Nat} {a1 : Int32} {a2 : Int32} : am_x 204 [.ref a0, .int a1, .int a2] w = am_run 204 0 [some (.ref a0), some (.int a1), some (.int a2)] [] w :=
  congrArg (fun l => am_run 204 0 l [] w) (bnr (ls := am_xp [.ref a0, .int a1, .int a2] ++ List.replicate (am_ml 204 - (am_xp [.ref a0, .int a1, .int a2]).length) none) (ls' := [some (.ref a0), some (.int a1), some (.int a2)]) bf204_0 rfl)
theorem bx205 {w : am_Wd} {a0 : Nat} {a1 : Nat} : am_x 205 [.ref a0, .ref a1] w = am_run 205 0 [some (.ref a0), some (.ref a1), none, none, none] [] w :=
  congrArg (fun l => am_run 205 0 l [] w) (bnr (ls := am_xp [.ref a0, .ref a1] ++ List.replicate (am_ml 205 - (am_xp [.ref a0, .ref a1]).length) none) (ls' := [some (.ref a0), some (.ref a1), none, none, none]) bf205_0 rfl)
theorem bx206 {w : am_Wd} {a0 : Nat} {a1 : Int32} : am_x 206 [.ref a0, .int a1] w = am_run 206 0 [some (.ref a0), some (.int a1), none, none, none] [] w :=
  congrArg (fun l => am_run 206 0 l [] w) (bnr (ls := am_xp [.ref a0, .int a1] ++ List.replicate (am_ml 206 - (am_xp [.ref a0, .int a1]).length) none) (ls' := [some (.ref a0), some (.int a1), none, none, none]) bf206_0 rfl)
theorem bx207 {w : am_Wd} {a0 : Nat} {a1 : Int32} {a2 : Int32} {a3 : Int32} {a4 : Int32} : am_x 207 [.ref a0, .int a1, .int a2, .int a3, .int a4] w = am_run 207 0 [some (.ref a0), some (.int a1), some (.int a2), some (.int a3), some (.int a4), none] [] w :=
  congrArg (fun l => am_run 207 0 l [] w) (bnr (ls := am_xp [.ref a0, .int a1, .int a2, .int a3, .int a4] ++ List.replicate (am_ml 207 - (am_xp [.ref a0, .int a1, .int a2, .int a3, .int a4]).length) none) (ls' := [some (.ref a0), some (.int a1), some (.int a2), some (.int a3), some (.int a4), none]) bf207_0 rfl)
theorem bx208 {w : am_Wd} {a0 : Nat} {a1 : Nat} {a2 : Int32} : am_x 208 [.ref a0, .ref a1, .int a2] w = am_run 208 0 [none, some (.ref a1), some (.int a2), none, none, none, none] [] w :=
  congrArg (fun l => am_run 208 0 l [] w) (bnr (ls := am_xp [.ref a0, .ref a1, .int a2] ++ List.replicate (am_ml 208 - (am_xp [.ref a0, .ref a1, .int a2]).length) none) (ls' := [none, some (.ref a1), some (.int a2), none, none, none, none]) bf208_0 rfl)
theorem bx209 {w : am_Wd} {a0 : Nat} {a1 : Int32} : am_x 209 [.ref a0, .int a1] w = am_run 209 0 [some (.ref a0), some (.int a1), none, none, none] [] w :=
  congrArg (fun l => am_run 209 0 l [] w) (bnr (ls := am_xp [.ref a0, .int a1] ++ List.replicate (am_ml 209 - (am_xp [.ref a0, .int a1]).length) none) (ls' := [some (.ref a0), some (.int a1), none, none, none]) bf209_0 rfl)
theorem bx210 {w : am_Wd} {a0 : Nat} {a1 : Int32} {a2 : Int32} : am_x 210 [.ref a0, .int a1, .int a2] w = am_run 210 0 [some (.ref a0), some (.int a1), some (.int a2), none, none] [] w :=
  congrArg (fun l => am_run 210 0 l [] w) (bnr (ls := am_xp [.ref a0, .int a1, .int a2] ++ List.replicate (am_ml 210 - (am_xp [.ref a0, .int a1, .int a2]).length) none) (ls' := [some (.ref a0), some (.int a1), some (.int a2), none, none]) bf210_0 rfl)
theorem bx211 {w : am_Wd} {a0 : Nat} {a1 : Int32} : am_x 211 [.ref a0, .int a1] w = am_run 211 0 [some (.ref a0), some (.int a1), none, none, none, none] [] w :=
  congrArg (fun l => am_run 211 0 l [] w) (bnr (ls := am_xp [.ref a0, .int a1] ++ List.replicate (am_ml 211 - (am_xp [.ref a0, .int a1]).length) none) (ls' := [some (.ref a0), some (.int a1), none, none, none, none]) bf211_0 rfl)
theorem bx212 {w : am_Wd} {a0 : Nat} {a1 : Int32} {a2 : Int32} {a3 : Int32} : am_x 212 [.ref a0, .int a1, .int a2, .int a3] w = am_run 212 0 [some (.ref a0), some (.int a1), some (.int a2), some (.int a3)] [] w :=
  congrArg (fun l => am_run 212 0 l [] w) (bnr (ls := am_xp [.ref a0, .int a1, .int a2, .int a3] ++ List.replicate (am_ml 212 - (am_xp [.ref a0, .int a1, .int a2, .int a3]).length) none) (ls' := [some (.ref a0), some (.int a1), some (.int a2), some (.int a3)]) bf212_0 rfl)
theorem bx213 {w : am_Wd} {a0 : Nat} {a1 : Int32} : am_x 213 [.ref a0, .int a1] w = am_run 213 0 [some (.ref a0), some (.int a1), none, none, none] [] w :=
  congrArg (fun l => am_run 213 0 l [] w) (bnr (ls := am_xp [.ref a0, .int a1] ++ List.replicate (am_ml 213 - (am_xp [.ref a0, .int a1]).length) none) (ls' := [some (.ref a0), some (.int a1), none, none, none]) bf213_0 rfl)
theorem bx214 {w : am_Wd} {a0 : Nat} {a1 : Int32} {a2 : Int32} {a3 : Int32} : am_x 214 [.ref a0, .int a1, .int a2, .int a3] w = am_run 214 0 [some (.ref a0), some (.int a1), some (.int a2), some (.int a3)] [] w :=
  congrArg (fun l => am_run 214 0 l [] w) (bnr (ls := am_xp [.ref a0, .int a1, .int a2, .int a3] ++ List.replicate (am_ml 214 - (am_xp [.ref a0, .int a1, .int a2, .int a3]).length) none) (ls' := [some (.ref a0), some (.int a1), some (.int a2), some (.int a3)]) bf214_0 rfl)
theorem bx215 {w : am_Wd} {a0 : Nat} : am_x 215 [.ref a0] w = am_run 215 0 [some (.ref a0)] [] w :=
  congrArg (fun l => am_run 215 0 l [] w) (bnr (ls := am_xp [.ref a0] ++ List.replicate (am_ml 215 - (am_xp [.ref a0]).length) none) (ls' := [some (.ref a0)]) bf215_0 rfl)
theorem bx216 {w : am_Wd} {a0 : Nat} {a1 : Int32} {a2 : Int32} {a3 : Int32} {a4 : Int32} {a5 : Nat} : am_x 216 [.ref a0, .int a1, .int a2, .int a3, .int a4, .ref a5] w = am_run 216 0 [some (.ref a0), some (.int a1), some (.int a2), some (.int a3), some (.int a4), some (.ref a5), none] [] w :=
  congrArg (fun l => am_run 216 0 l [] w) (bnr (ls := am_xp [.ref a0, .int a1, .int a2, .int a3, .int a4, .ref a5] ++ List.replicate (am_ml 216 - (am_xp [.ref a0, .int a1, .int a2, .int a3, .int a4, .ref a5]).length) none) (ls' := [some (.ref a0), some (.int a1), some (.int a2), some (.int a3), some (.int a4), some (.ref a5), none]) bf216_0 rfl)
theorem bx217 {w : am_Wd} {a0 : Nat} {a1 : Int32} {a2 : Int32} {a3 : Int32} {a4 : Int32} {a5 : Nat} : am_x 217 [.ref a0, .int a1, .int a2, .int a3, .int a4, .ref a5] w = am_run 217 0 [some (.ref a0), some (.int a1), some (.int a2), some (.int a3), some (.int a4), some (.ref a5), none] [] w :=
  congrArg (fun l => am_run 217 0 l [] w) (bnr (ls := am_xp [.ref a0, .int a1, .int a2, .int a3, .int a4, .ref a5] ++ List.replicate (am_ml 217 - (am_xp [.ref a0, .int a1, .int a2, .int a3, .int a4, .ref a5]).length) none) (ls' := [some (.ref a0), some (.int a1), some (.int a2), some (.int a3), some (.int a4), some (.ref a5), none]) bf217_0 rfl)
theorem bx218 {w : am_Wd} {a0 : Nat} {a1 : Int32} {a2 : Int32} {a3 : Nat} : am_x 218 [.ref a0, .int a1, .int a2, .ref a3] w = am_run 218 0 [some (.ref a0), some (.int a1), some (.int a2), some (.ref a3), none] [] w :=
  congrArg (fun l => am_run 218 0 l [] w) (bnr (ls := am_xp [.ref a0, .int a1, .int a2, .ref a3] ++ List.replicate (am_ml 218 - (am_xp [.ref a0, .int a1, .int a2, .ref a3]).length) none) (ls' := [some (.ref a0), some (.int a1), some (.int a2), some (.ref a3), none]) bf218_0 rfl)
theorem bx219 {w : am_Wd} {a0 : Nat} {a1 : Int32} {a2 : Int32} {a3 : Int32} {a4 : Nat} : am_x 219 [.ref a0, .int a1, .int a2, .int a3, .ref a4] w = am_run 219 0 [some (.ref a0), some (.int a1), some (.int a2), some (.int a3), some (.ref a4), none] [] w :=
  congrArg (fun l => am_run 219 0 l [] w) (bnr (ls := am_xp [.ref a0, .int a1, .int a2, .int a3, .ref a4] ++ List.replicate (am_ml 219 - (am_xp [.ref a0, .int a1, .int a2, .int a3, .ref a4]).length) none) (ls' := [some (.ref a0), some (.int a1), some (.int a2), some (.int a3), some (.ref a4), none]) bf219_0 rfl)
theorem bx220 {w : am_Wd} {a0 : Nat} {a1 : Int32} {a2 : Int32} {a3 : Nat} : am_x 220 [.ref a0, .int a1, .int a2, .ref a3] w = am_run 220 0 [some (.ref a0), some (.int a1), some (.int a2), some (.ref a3), none] [] w :=
  congrArg (fun l => am_run 220 0 l [] w) (bnr (ls := am_xp [.ref a0, .int a1, .int a2, .ref a3] ++ List.replicate (am_ml 220 - (am_xp [.ref a0, .int a1, .int a2, .ref a3]).length) none) (ls' := [some (.ref a0), some (.int a1), some (.int a2), some (.ref a3), none]) bf220_0 rfl)
theorem bx223 {w : am_Wd} {a0 : Nat} {a1 : Int32} {a2 : Int32} : am_x 223 [.ref a0, .int a1, .int a2] w = am_run 223 0 [some (.ref a0), some (.int a1), some (.int a2), none] [] w :=
  congrArg (fun l => am_run 223 0 l [] w) (bnr (ls := am_xp [.ref a0, .int a1, .int a2] ++ List.replicate (am_ml 223 - (am_xp [.ref a0, .int a1, .int a2]).length) none) (ls' := [some (.ref a0), some (.int a1), some (.int a2), none]) bf223_0 rfl)
theorem bx224 {w : am_Wd} {a0 : Nat} : am_x 224 [.ref a0] w = am_run 224 0 [some (.ref a0), none, none] [] w :=
  congrArg (fun l => am_run 224 0 l [] w) (bnr (ls := am_xp [.ref a0] ++ List.replicate (am_ml 224 - (am_xp [.ref a0]).length) none) (ls' := [some (.ref a0), none, none]) bf224_0 rfl)
theorem bx225 {w : am_Wd} {a0 : Nat} {a1 : Nat} {a2 : Int32} : am_x 225 [.ref a0, .ref a1, .int a2] w = am_run 225 0 [some (.ref a0), some (.ref a1), some (.int a2)] [] w :=
  congrArg (fun l => am_run 225 0 l [] w) (bnr (ls := am_xp [.ref a0, .ref a1, .int a2] ++ List.replicate (am_ml 225 - (am_xp [.ref a0, .ref a1, .int a2]).length) none) (ls' := [some (.ref a0), some (.ref a1), some (.int a2)]) bf225_0 rfl)
theorem bx226 {w : am_Wd} {a0 : Nat} {a1 : Nat} : am_x 226 [.ref a0, .ref a1] w = am_run 226 0 [some (.ref a0), some (.ref a1)] [] w :=
  congrArg (fun l => am_run 226 0 l [] w) (bnr (ls := am_xp [.ref a0, .ref a1] ++ List.replicate (am_ml 226 - (am_xp [.ref a0, .ref a1]).length) none) (ls' := [some (.ref a0), some (.ref a1)]) bf226_0 rfl)
theorem bx227 {w : am_Wd} {a0 : Nat} {a1 : Int32} : am_x 227 [.ref a0, .int a1] w = am_run 227 0 [some (.ref a0), some (.int a1)] [] w :=
  congrArg (fun l => am_run 227 0 l [] w) (bnr (ls := am_xp [.ref a0, .int a1] ++ List.replicate (am_ml 227 - (am_xp [.ref a0, .int a1]).length) none) (ls' := [some (.ref a0), some (.int a1)]) bf227_0 rfl)
theorem bx228 {w : am_Wd} {a0 : Nat} {a1 : Int32} {a2 : Int32} {a3 : Int32} : am_x 228 [.ref a0, .int a1, .int a2, .int a3] w = am_run 228 0 [some (.ref a0), some (.int a1), some (.int a2), some (.int a3)] [] w :=
  congrArg (fun l => am_run 228 0 l [] w) (bnr (ls := am_xp [.ref a0, .int a1, .int a2, .int a3] ++ List.replicate (am_ml 228 - (am_xp [.ref a0, .int a1, .int a2, .int a3]).length) none) (ls' := [some (.ref a0), some (.int a1), some (.int a2), some (.int a3)]) bf228_0 rfl)
theorem bx229 {w : am_Wd} {a0 : Nat} {a1 : Nat} : am_x 229 [.ref a0, .ref a1] w = am_run 229 0 [some (.ref a0), some (.ref a1), none, none, none, none, none] [] w :=
  congrArg (fun l => am_run 229 0 l [] w) (bnr (ls := am_xp [.ref a0, .ref a1] ++ List.replicate (am_ml 229 - (am_xp [.ref a0, .ref a1]).length) none) (ls' := [some (.ref a0), some (.ref a1), none, none, none, none, none]) bf229_0 rfl)
theorem bx230 {w : am_Wd} {a0 : Nat} {a1 : Nat} {a2 : Int32} : am_x 230 [.ref a0, .ref a1, .int a2] w = am_run 230 0 [none, some (.ref a1), some (.int a2), none, none] [] w :=
  congrArg (fun l => am_run 230 0 l [] w) (bnr (ls := am_xp [.ref a0, .ref a1, .int a2] ++ List.replicate (am_ml 230 - (am_xp [.ref a0, .ref a1, .int a2]).length) none) (ls' := [none, some (.ref a1), some (.int a2), none, none]) bf230_0 rfl)
theorem bx231 {w : am_Wd} {a0 : Nat} {a1 : Int32} {a2 : Int32} : am_x 231 [.ref a0, .int a1, .int a2] w = am_run 231 0 [some (.ref a0), some (.int a1), some (.int a2)] [] w :=
  congrArg (fun l => am_run 231 0 l [] w) (bnr (ls := am_xp [.ref a0, .int a1, .int a2] ++ List.replicate (am_ml 231 - (am_xp [.ref a0, .int a1, .int a2]).length) none) (ls' := [some (.ref a0), some (.int a1), some (.int a2)]) bf231_0 rfl)
theorem bx232 {w : am_Wd} {a0 : Nat} {a1 : Int32} {a2 : Int32} : am_x 232 [.ref a0, .int a1, .int a2] w = am_run 232 0 [some (.ref a0), some (.int a1), some (.int a2)] [] w :=
  congrArg (fun l => am_run 232 0 l [] w) (bnr (ls := am_xp [.ref a0, .int a1, .int a2] ++ List.replicate (am_ml 232 - (am_xp [.ref a0, .int a1, .int a2]).length) none) (ls' := [some (.ref a0), some (.int a1), some (.int a2)]) bf232_0 rfl)
theorem bx233 {w : am_Wd} {a0 : Nat} {a1 : Int32} {a2 : Nat} : am_x 233 [.ref a0, .int a1, .ref a2] w = am_run 233 0 [some (.ref a0), some (.int a1), some (.ref a2), none] [] w :=
  congrArg (fun l => am_run 233 0 l [] w) (bnr (ls := am_xp [.ref a0, .int a1, .ref a2] ++ List.replicate (am_ml 233 - (am_xp [.ref a0, .int a1, .ref a2]).length) none) (ls' := [some (.ref a0), some (.int a1), some (.ref a2), none]) bf233_0 rfl)
theorem bx234 {w : am_Wd} {a0 : Nat} {a1 : Int32} {a2 : Int32} {a3 : Nat} : am_x 234 [.ref a0, .int a1, .int a2, .ref a3] w = am_run 234 0 [some (.ref a0), some (.int a1), some (.int a2), some (.ref a3), none] [] w :=
  congrArg (fun l => am_run 234 0 l [] w) (bnr (ls := am_xp [.ref a0, .int a1, .int a2, .ref a3] ++ List.replicate (am_ml 234 - (am_xp [.ref a0, .int a1, .int a2, .ref a3]).length) none) (ls' := [some (.ref a0), some (.int a1), some (.int a2), some (.ref a3), none]) bf234_0 rfl)
theorem bx235 {w : am_Wd} {a0 : Nat} {a1 : Int32} {a2 : Int32} {a3 : Nat} : am_x 235 [.ref a0, .int a1, .int a2, .ref a3] w = am_run 235 0 [some (.ref a0), some (.int a1), some (.int a2), some (.ref a3), none] [] w :=
  congrArg (fun l => am_run 235 0 l [] w) (bnr (ls := am_xp [.ref a0, .int a1, .int a2, .ref a3] ++ List.replicate (am_ml 235 - (am_xp [.ref a0, .int a1, .int a2, .ref a3]).length) none) (ls' := [some (.ref a0), some (.int a1), some (.int a2), some (.ref a3), none]) bf235_0 rfl)
theorem bx236 {w : am_Wd} {a0 : Nat} {a1 : Int32} {a2 : Nat} : am_x 236 [.ref a0, .int a1, .ref a2] w = am_run 236 0 [some (.ref a0), some (.int a1), some (.ref a2), none] [] w :=
  congrArg (fun l => am_run 236 0 l [] w) (bnr (ls := am_xp [.ref a0, .int a1, .ref a2] ++ List.replicate (am_ml 236 - (am_xp [.ref a0, .int a1, .ref a2]).length) none) (ls' := [some (.ref a0), some (.int a1), some (.ref a2), none]) bf236_0 rfl)
theorem bx237 {w : am_Wd} {a0 : Nat} {a1 : Int32} {a2 : Int32} {a3 : Nat} : am_x 237 [.ref a0, .int a1, .int a2, .ref a3] w = am_run 237 0 [some (.ref a0), some (.int a1), some (.int a2), some (.ref a3), none] [] w :=
  congrArg (fun l => am_run 237 0 l [] w) (bnr (ls := am_xp [.ref a0, .int a1, .int a2, .ref a3] ++ List.replicate (am_ml 237 - (am_xp [.ref a0, .int a1, .int a2, .ref a3]).length) none) (ls' := [some (.ref a0), some (.int a1), some (.int a2), some (.ref a3), none]) bf237_0 rfl)
theorem bx239 {w : am_Wd} {a0 : Nat} {a1 : Int32} {a2 : Int32} : am_x 239 [.ref a0, .int a1, .int a2] w = am_run 239 0 [some (.ref a0), some (.int a1), some (.int a2), none, none] [] w :=
  congrArg (fun l => am_run 239 0 l [] w) (bnr (ls := am_xp [.ref a0, .int a1, .int a2] ++ List.replicate (am_ml 239 - (am_xp [.ref a0, .int a1, .int a2]).length) none) (ls' := [some (.ref a0), some (.int a1), some (.int a2), none, none]) bf239_0 rfl)
theorem bx240 {w : am_Wd} {a0 : Nat} {a1 : Int32} {a2 : Int32} {a3 : Int32} : am_x 240 [.ref a0, .int a1, .int a2, .int a3] w = am_run 240 0 [some (.ref a0), some (.int a1), some (.int a2), some (.int a3), none] [] w :=
  congrArg (fun l => am_run 240 0 l [] w) (bnr (ls := am_xp [.ref a0, .int a1, .int a2, .int a3] ++ List.replicate (am_ml 240 - (am_xp [.ref a0, .int a1, .int a2, .int a3]).length) none) (ls' := [some (.ref a0), some (.int a1), some (.int a2), some (.int a3), none]) bf240_0 rfl)
theorem bx241 {w : am_Wd} {a0 : Nat} {a1 : Int32} {a2 : Int32} : am_x 241 [.ref a0, .int a1, .int a2] w = am_run 241 0 [some (.ref a0), some (.int a1), some (.int a2), none, none] [] w :=
  congrArg (fun l => am_run 241 0 l [] w) (bnr (ls := am_xp [.ref a0, .int a1, .int a2] ++ List.replicate (am_ml 241 - (am_xp [.ref a0, .int a1, .int a2]).length) none) (ls' := [some (.ref a0), some (.int a1), some (.int a2), none, none]) bf241_0 rfl)
theorem bx242 {w : am_Wd} {a0 : Nat} {a1 : Int32} {a2 : Int32} : am_x 242 [.ref a0, .int a1, .int a2] w = am_run 242 0 [some (.ref a0), some (.int a1), some (.int a2), none, none, none, none] [] w :=
  congrArg (fun l => am_run 242 0 l [] w) (bnr (ls := am_xp [.ref a0, .int a1, .int a2] ++ List.replicate (am_ml 242 - (am_xp [.ref a0, .int a1, .int a2]).length) none) (ls' := [some (.ref a0), some (.int a1), some (.int a2), none, none, none, none]) bf242_0 rfl)
theorem bx243 {w : am_Wd} {a0 : Nat} {a1 : Int32} : am_x 243 [.ref a0, .int a1] w = am_run 243 0 [some (.ref a0), some (.int a1), none, none, none] [] w :=
  congrArg (fun l => am_run 243 0 l [] w) (bnr (ls := am_xp [.ref a0, .int a1] ++ List.replicate (am_ml 243 - (am_xp [.ref a0, .int a1]).length) none) (ls' := [some (.ref a0), some (.int a1), none, none, none]) bf243_0 rfl)
theorem bx244 {w : am_Wd} {a0 : Nat} {a1 : Int64} {a2 : Int32} : am_x 244 [.ref a0, .long a1, .int a2] w = am_run 244 0 [some (.ref a0), some (.long a1), none, some (.int a2), none, none, none] [] w :=
  congrArg (fun l => am_run 244 0 l [] w) (bnr (ls := am_xp [.ref a0, .long a1, .int a2] ++ List.replicate (am_ml 244 - (am_xp [.ref a0, .long a1, .int a2]).length) none) (ls' := [some (.ref a0), some (.long a1), none, some (.int a2), none, none, none]) bf244_0 rfl)
theorem bx245 {w : am_Wd} {a0 : Nat} {a1 : Nat} : am_x 245 [.ref a0, .ref a1] w = am_run 245 0 [some (.ref a0), some (.ref a1)] [] w :=
  congrArg (fun l => am_run 245 0 l [] w) (bnr (ls := am_xp [.ref a0, .ref a1] ++ List.replicate (am_ml 245 - (am_xp [.ref a0, .ref a1]).length) none) (ls' := [some (.ref a0), some (.ref a1)]) bf245_0 rfl)
theorem bx246 {w : am_Wd} {a0 : Nat} {a1 : Int32} : am_x 246 [.ref a0, .int a1] w = am_run 246 0 [some (.ref a0), some (.int a1), none, none, none, none] [] w :=
  congrArg (fun l => am_run 246 0 l [] w) (bnr (ls := am_xp [.ref a0, .int a1] ++ List.replicate (am_ml 246 - (am_xp [.ref a0, .int a1]).length) none) (ls' := [some (.ref a0), some (.int a1), none, none, none, none]) bf246_0 rfl)
theorem bx247 {w : am_Wd} {a0 : Nat} {a1 : Int32} {a2 : Int32} : am_x 247 [.ref a0, .int a1, .int a2] w = am_run 247 0 [some (.ref a0), some (.int a1), some (.int a2)] [] w :=
  congrArg (fun l => am_run 247 0 l [] w) (bnr (ls := am_xp [.ref a0, .int a1, .int a2] ++ List.replicate (am_ml 247 - (am_xp [.ref a0, .int a1, .int a2]).length) none) (ls' := [some (.ref a0), some (.int a1), some (.int a2)]) bf247_0 rfl)
theorem bx248 {w : am_Wd} {a0 : Nat} {a1 : Nat} : am_x 248 [.ref a0, .ref a1] w = am_run 248 0 [some (.ref a0), some (.ref a1), none, none] [] w :=
  congrArg (fun l => am_run 248 0 l [] w) (bnr (ls := am_xp [.ref a0, .ref a1] ++ List.replicate (am_ml 248 - (am_xp [.ref a0, .ref a1]).length) none) (ls' := [some (.ref a0), some (.ref a1), none, none]) bf248_0 rfl)
theorem bx249 {w : am_Wd} {a0 : Nat} {a1 : Int32} {a2 : Int32} {a3 : Nat} : am_x 249 [.ref a0, .int a1, .int a2, .ref a3] w = am_run 249 0 [some (.ref a0), some (.int a1), some (.int a2), some (.ref a3), none] [] w :=
  congrArg (fun l => am_run 249 0 l [] w) (bnr (ls := am_xp [.ref a0, .int a1, .int a2, .ref a3] ++ List.replicate (am_ml 249 - (am_xp [.ref a0, .int a1, .int a2, .ref a3]).length) none) (ls' := [some (.ref a0), some (.int a1), some (.int a2), some (.ref a3), none]) bf249_0 rfl)
theorem bx250 {w : am_Wd} {a0 : Nat} : am_x 250 [.ref a0] w = am_run 250 0 [some (.ref a0), none, none, none, none] [] w :=
  congrArg (fun l => am_run 250 0 l [] w) (bnr (ls := am_xp [.ref a0] ++ List.replicate (am_ml 250 - (am_xp [.ref a0]).length) none) (ls' := [some (.ref a0), none, none, none, none]) bf250_0 rfl)
theorem bx251 {w : am_Wd} {a0 : Nat} {a1 : Nat} : am_x 251 [.ref a0, .ref a1] w = am_run 251 0 [some (.ref a0), some (.ref a1)] [] w :=
  congrArg (fun l => am_run 251 0 l [] w) (bnr (ls := am_xp [.ref a0, .ref a1] ++ List.replicate (am_ml 251 - (am_xp [.ref a0, .ref a1]).length) none) (ls' := [some (.ref a0), some (.ref a1)]) bf251_0 rfl)
theorem bx252 {w : am_Wd} {a0 : Nat} {a1 : Int32} : am_x 252 [.ref a0, .int a1] w = am_run 252 0 [some (.ref a0), some (.int a1)] [] w :=
  congrArg (fun l => am_run 252 0 l [] w) (bnr (ls := am_xp [.ref a0, .int a1] ++ List.replicate (am_ml 252 - (am_xp [.ref a0, .int a1]).length) none) (ls' := [some (.ref a0), some (.int a1)]) bf252_0 rfl)
theorem bx253 {w : am_Wd} {a0 : Nat} {a1 : Int32} {a2 : Int32} {a3 : Nat} : am_x 253 [.ref a0, .int a1, .int a2, .ref a3] w = am_run 253 0 [some (.ref a0), some (.int a1), some (.int a2), some (.ref a3), none] [] w :=
  congrArg (fun l => am_run 253 0 l [] w) (bnr (ls := am_xp [.ref a0, .int a1, .int a2, .ref a3] ++ List.replicate (am_ml 253 - (am_xp [.ref a0, .int a1, .int a2, .ref a3]).length) none) (ls' := [some (.ref a0), some (.int a1), some (.int a2), some (.ref a3), none]) bf253_0 rfl)
theorem bx254 {w : am_Wd} {a0 : Nat} {a1 : Int32} {a2 : Int32} {a3 : Int32} {a4 : Nat} : am_x 254 [.ref a0, .int a1, .int a2, .int a3, .ref a4] w = am_run 254 0 [some (.ref a0), some (.int a1), some (.int a2), some (.int a3), some (.ref a4), none] [] w :=
  congrArg (fun l => am_run 254 0 l [] w) (bnr (ls := am_xp [.ref a0, .int a1, .int a2, .int a3, .ref a4] ++ List.replicate (am_ml 254 - (am_xp [.ref a0, .int a1, .int a2, .int a3, .ref a4]).length) none) (ls' := [some (.ref a0), some (.int a1), some (.int a2), some (.int a3), some (.ref a4), none]) bf254_0 rfl)
theorem bx255 {w : am_Wd} {a0 : Nat} {a1 : Int32} {a2 : Int32} {a3 : Nat} : am_x 255 [.ref a0, .int a1, .int a2, .ref a3] w = am_run 255 0 [some (.ref a0), some (.int a1), some (.int a2), some (.ref a3), none] [] w :=
  congrArg (fun l => am_run 255 0 l [] w) (bnr (ls := am_xp [.ref a0, .int a1, .int a2, .ref a3] ++ List.replicate (am_ml 255 - (am_xp [.ref a0, .int a1, .int a2, .ref a3]).length) none) (ls' := [some (.ref a0), some (.int a1), some (.int a2), some (.ref a3), none]) bf255_0 rfl)
theorem bx256 {w : am_Wd} {a0 : Nat} {a1 : Int32} {a2 : Int32} {a3 : Nat} : am_x 256 [.ref a0, .int a1, .int a2, .ref a3] w = am_run 256 0 [some (.ref a0), some (.int a1), some (.int a2), some (.ref a3), none] [] w :=
  congrArg (fun l => am_run 256 0 l [] w) (bnr (ls := am_xp [.ref a0, .int a1, .int a2, .ref a3] ++ List.replicate (am_ml 256 - (am_xp [.ref a0, .int a1, .int a2, .ref a3]).length) none) (ls' := [some (.ref a0), some (.int a1), some (.int a2), some (.ref a3), none]) bf256_0 rfl)
theorem bx257 {w : am_Wd} {a0 : Nat} {a1 : Int32} {a2 : Nat} : am_x 257 [.ref a0, .int a1, .ref a2] w = am_run 257 0 [some (.ref a0), some (.int a1), some (.ref a2), none] [] w :=
  congrArg (fun l => am_run 257 0 l [] w) (bnr (ls := am_xp [.ref a0, .int a1, .ref a2] ++ List.replicate (am_ml 257 - (am_xp [.ref a0, .int a1, .ref a2]).length) none) (ls' := [some (.ref a0), some (.int a1), some (.ref a2), none]) bf257_0 rfl)
theorem bx258 {w : am_Wd} {a0 : Nat} {a1 : Nat} {a2 : Int32} : am_x 258 [.ref a0, .ref a1, .int a2] w = am_run 258 0 [some (.ref a0), some (.ref a1), some (.int a2)] [] w :=
  congrArg (fun l => am_run 258 0 l [] w) (bnr (ls := am_xp [.ref a0, .ref a1, .int a2] ++ List.replicate (am_ml 258 - (am_xp [.ref a0, .ref a1, .int a2]).length) none) (ls' := [some (.ref a0), some (.ref a1), some (.int a2)]) bf258_0 rfl)
theorem bx259 {w : am_Wd} {a0 : Nat} {a1 : Nat} {a2 : Int32} : am_x 259 [.ref a0, .ref a1, .int a2] w = am_run 259 0 [some (.ref a0), some (.ref a1), some (.int a2)] [] w :=
  congrArg (fun l => am_run 259 0 l [] w) (bnr (ls := am_xp [.ref a0, .ref a1, .int a2] ++ List.replicate (am_ml 259 - (am_xp [.ref a0, .ref a1, .int a2]).length) none) (ls' := [some (.ref a0), some (.ref a1), some (.int a2)]) bf259_0 rfl)
theorem bx260 {w : am_Wd} {a0 : Nat} {a1 : Int32} {a2 : Int32} : am_x 260 [.ref a0, .int a1, .int a2] w = am_run 260 0 [some (.ref a0), some (.int a1), some (.int a2), none, none, none, none, none, none, none] [] w :=
  congrArg (fun l => am_run 260 0 l [] w) (bnr (ls := am_xp [.ref a0, .int a1, .int a2] ++ List.replicate (am_ml 260 - (am_xp [.ref a0, .int a1, .int a2]).length) none) (ls' := [some (.ref a0), some (.int a1), some (.int a2), none, none, none, none, none, none, none]) bf260_0 rfl)
theorem bx261 {w : am_Wd} {a0 : Nat} {a1 : Int32} {a2 : Int32} {a3 : Int32} : am_x 261 [.ref a0, .int a1, .int a2, .int a3] w = am_run 261 0 [some (.ref a0), some (.int a1), some (.int a2), some (.int a3), none, none, none, none] [] w :=
  congrArg (fun l => am_run 261 0 l [] w) (bnr (ls := am_xp [.ref a0, .int a1, .int a2, .int a3] ++ List.replicate (am_ml 261 - (am_xp [.ref a0, .int a1, .int a2, .int a3]).length) none) (ls' := [some (.ref a0), some (.int a1), some (.int a2), some (.int a3), none, none, none, none]) bf261_0 rfl)
theorem bx262 {w : am_Wd} {a0 : Nat} {a1 : Int32} {a2 : Int32} : am_x 262 [.ref a0, .int a1, .int a2] w = am_run 262 0 [some (.ref a0), some (.int a1), some (.int a2), none, none, none, none] [] w :=
  congrArg (fun l => am_run 262 0 l [] w) (bnr (ls := am_xp [.ref a0, .int a1, .int a2] ++ List.replicate (am_ml 262 - (am_xp [.ref a0, .int a1, .int a2]).length) none) (ls' := [some (.ref a0), some (.int a1), some (.int a2), none, none, none, none]) bf262_0 rfl)
theorem bx263 {w : am_Wd} {a0 : Nat} {a1 : Int32} {a2 : Int32} : am_x 263 [.ref a0, .int a1, .int a2] w = am_run 263 0 [some (.ref a0), some (.int a1), some (.int a2), none, none, none, none] [] w :=
  congrArg (fun l => am_run 263 0 l [] w) (bnr (ls := am_xp [.ref a0, .int a1, .int a2] ++ List.replicate (am_ml 263 - (am_xp [.ref a0, .int a1, .int a2]).length) none) (ls' := [some (.ref a0), some (.int a1), some (.int a2), none, none, none, none]) bf263_0 rfl)
theorem bx264 {w : am_Wd} {a0 : Nat} {a1 : Int32} {a2 : Int32} : am_x 264 [.ref a0, .int a1, .int a2] w = am_run 264 0 [some (.ref a0), some (.int a1), some (.int a2)] [] w :=
  congrArg (fun l => am_run 264 0 l [] w) (bnr (ls := am_xp [.ref a0, .int a1, .int a2] ++ List.replicate (am_ml 264 - (am_xp [.ref a0, .int a1, .int a2]).length) none) (ls' := [some (.ref a0), some (.int a1), some (.int a2)]) bf264_0 rfl)
theorem bx265 {w : am_Wd} {a0 : Nat} : am_x 265 [.ref a0] w = am_run 265 0 [some (.ref a0), none, none, none, none, none, none] [] w :=
  congrArg (fun l => am_run 265 0 l [] w) (bnr (ls := am_xp [.ref a0] ++ List.replicate (am_ml 265 - (am_xp [.ref a0]).length) none) (ls' := [some (.ref a0), none, none, none, none, none, none]) bf265_0 rfl)
theorem bx266 {w : am_Wd} {a0 : Nat} : am_x 266 [.ref a0] w = am_run 266 0 [some (.ref a0)] [] w :=
  congrArg (fun l => am_run 266 0 l [] w) (bnr (ls := am_xp [.ref a0] ++ List.replicate (am_ml 266 - (am_xp [.ref a0]).length) none) (ls' := [some (.ref a0)]) bf266_0 rfl)
theorem bx269 {w : am_Wd} {a0 : Nat} : am_x 269 [.ref a0] w = am_run 269 0 [some (.ref a0), none, none, none, none, none, none, none] [] w :=
  congrArg (fun l => am_run 269 0 l [] w) (bnr (ls := am_xp [.ref a0] ++ List.replicate (am_ml 269 - (am_xp [.ref a0]).length) none) (ls' := [some (.ref a0), none, none, none, none, none, none, none]) bf269_0 rfl)
theorem bx58n {w : am_Wd} {a0 : Int32} {a1 : Int32} : am_x 58 [.int a0, .int a1, .null] w = am_run 58 0 [some (.int a0), some (.int a1), some (.null)] [] w :=
  congrArg (fun l => am_run 58 0 l [] w) (bnr (ls := am_xp [.int a0, .int a1, .null] ++ List.replicate (am_ml 58 - (am_xp [.int a0, .int a1, .null]).length) none) (ls' := [some (.int a0), some (.int a1), some (.null)]) bf58_0 rfl)
