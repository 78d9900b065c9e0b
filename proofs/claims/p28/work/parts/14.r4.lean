/-! RULES, on. Mine. -/
theorem bk265_260 {w : am_Wd} {l0 : Nat} {l3 : Nat} {l4 : Nat} {s0 : Int32} {s1 : Int64} : am_run 265 260 [some (.ref l0), none, none, some (.ref l3), some (.ref l4), none, none] [.int s0, .long s1] w = (am_kf w l0 11).bind fun _ => (am_x 49 [.ref l0, .ref l4] w).bind fun r => bct r fun v w' => am_run 265 277 [some (.ref l0), none, none, some (.ref l3), some (.ref l4), none, none] (v.toList ++ [.double (4634204016564240384 : UInt64), .long ((s1 + (Int32.toInt64 s0)) * (lN 31))]) w' := by
  refine (bu (ls'' := [some (.ref l0), none, none, some (.ref l3), some (.ref l4), none, none]) (st' := [.long (Int32.toInt64 s0), .long s1]) bf265_260 bf265_261 rfl rfl).trans ?_
  refine (bu (ls'' := [some (.ref l0), none, none, some (.ref l3), some (.ref l4), none, none]) (st' := [.long (s1 + (Int32.toInt64 s0))]) bf265_261 bf265_262 rfl rfl).trans ?_
  refine (bu (ls'' := [some (.ref l0), some (.long (s1 + (Int32.toInt64 s0))), none, some (.ref l3), some (.ref l4), none, none]) (st' := []) bf265_262 bf265_263 rfl rfl).trans ?_
  refine (bu (ls'' := [some (.ref l0), none, none, some (.ref l3), some (.ref l4), none, none]) (st' := [.long (s1 + (Int32.toInt64 s0))]) bf265_263 bf265_264 rfl rfl).trans ?_
  refine (bu (ls'' := [some (.ref l0), none, none, some (.ref l3), some (.ref l4), none, none]) (st' := [.long (lN 31), .long (s1 + (Int32.toInt64 s0))]) bf265_264 bf265_267 rfl rfl).trans ?_
  refine (bu (ls'' := [some (.ref l0), none, none, some (.ref l3), some (.ref l4), none, none]) (st' := [.long ((s1 + (Int32.toInt64 s0)) * (lN 31))]) bf265_267 bf265_268 rfl rfl).trans ?_
  refine (bu (ls'' := [some (.ref l0), none, none, some (.ref l3), some (.ref l4), none, none]) (st' := [.double (4634204016564240384 : UInt64), .long ((s1 + (Int32.toInt64 s0)) * (lN 31))]) bf265_268 bf265_271 rfl rfl).trans ?_
  refine (bu (ls'' := [some (.ref l0), none, none, some (.ref l3), some (.ref l4), none, none]) (st' := [.ref l0, .double (4634204016564240384 : UInt64), .long ((s1 + (Int32.toInt64 s0)) * (lN 31))]) bf265_271 bf265_272 rfl rfl).trans ?_
  refine (bu (ls'' := [some (.ref l0), none, none, some (.ref l3), some (.ref l4), none, none]) (st' := [.ref l4, .ref l0, .double (4634204016564240384 : UInt64), .long ((s1 + (Int32.toInt64 s0)) * (lN 31))]) bf265_272 bf265_274 rfl rfl).trans ?_
  exact bkV bf265_274 bf265_277 rfl (by decide +kernel) (Nat.le_of_ble_eq_true rfl) rfl (bhd rfl)
theorem bk265_240 {w : am_Wd} {l0 : Nat} {l3 : Nat} {l4 : Nat} {l5 : Int32} {s0 : Int32} {s1 : Int64} : am_run 265 240 [some (.ref l0), none, none, some (.ref l3), some (.ref l4), some (.int l5), none] [.int s0, .long s1] w = am_run 265 221 [some (.ref l0), some (.long (s1 + (Int32.toInt64 s0))), none, some (.ref l3), some (.ref l4), some (.int (l5 + (nI 1))), none] [] w := by
  refine (bu (ls'' := [some (.ref l0), none, none, some (.ref l3), some (.ref l4), some (.int l5), none]) (st' := [.long (Int32.toInt64 s0), .long s1]) bf265_240 bf265_241 rfl rfl).trans ?_
  refine (bu (ls'' := [some (.ref l0), none, none, some (.ref l3), some (.ref l4), some (.int l5), none]) (st' := [.long (s1 + (Int32.toInt64 s0))]) bf265_241 bf265_242 rfl rfl).trans ?_
  refine (bu (ls'' := [some (.ref l0), some (.long (s1 + (Int32.toInt64 s0))), none, some (.ref l3), some (.ref l4), some (.int l5), none]) (st' := []) bf265_242 bf265_243 rfl rfl).trans ?_
  refine (bu (ls'' := [some (.ref l0), some (.long (s1 + (Int32.toInt64 s0))), none, some (.ref l3), some (.ref l4), some (.int (l5 + (nI 1))), none]) (st' := []) bf265_243 bf265_246 rfl rfl).trans ?_
  refine (bu (ls'' := [some (.ref l0), some (.long (s1 + (Int32.toInt64 s0))), none, some (.ref l3), some (.ref l4), some (.int (l5 + (nI 1))), none]) (st' := []) bf265_246 bf265_221 rfl rfl).trans ?_
  rfl
theorem bk265_277 {w : am_Wd} {l0 : Nat} {l3 : Nat} {l4 : Nat} {s0 : UInt64} {s1 : UInt64} {s2 : Int64} (hn : (FP.dmul s1 s0) &&& 0x7fffffffffffffff ≤ 0x7ff0000000000000) : am_run 265 277 [some (.ref l0), none, none, some (.ref l3), some (.ref l4), none, none] [.double s0, .double s1, .long s2] w = am_run 265 278 [some (.ref l0), none, none, some (.ref l3), some (.ref l4), none, none] [.double (FP.dmul s1 s0), .long s2] w := by
  exact bdd (h := inferInstance) bf265_277 bf265_278 (fun h => by unfold am_stp; exact if_pos h) rfl hn
theorem bk265_278 {w : am_Wd} {l0 : Nat} {l3 : Nat} {l4 : Nat} {s0 : UInt64} {s1 : Int64} : am_run 265 278 [some (.ref l0), none, none, some (.ref l3), some (.ref l4), none, none] [.double s0, .long s1] w = am_run 265 284 [some (.ref l0), some (.long (s1 + (FP.d2l s0))), none, some (.ref l3), some (.ref l4), some (.int (nI 0)), none] [] w := by
  refine (bu (ls'' := [some (.ref l0), none, none, some (.ref l3), some (.ref l4), none, none]) (st' := [.long (FP.d2l s0), .long s1]) bf265_278 bf265_279 rfl rfl).trans ?_
  refine (bu (ls'' := [some (.ref l0), none, none, some (.ref l3), some (.ref l4), none, none]) (st' := [.long (s1 + (FP.d2l s0))]) bf265_279 bf265_280 rfl rfl).trans ?_
  refine (bu (ls'' := [some (.ref l0), some (.long (s1 + (FP.d2l s0))), none, some (.ref l3), some (.ref l4), none, none]) (st' := []) bf265_280 bf265_281 rfl rfl).trans ?_
  refine (bu (ls'' := [some (.ref l0), some (.long (s1 + (FP.d2l s0))), none, some (.ref l3), some (.ref l4), none, none]) (st' := [.int (nI 0)]) bf265_281 bf265_282 rfl rfl).trans ?_
  refine (bu (ls'' := [some (.ref l0), some (.long (s1 + (FP.d2l s0))), none, some (.ref l3), some (.ref l4), some (.int (nI 0)), none]) (st' := []) bf265_282 bf265_284 rfl rfl).trans ?_
  rfl
theorem bk265_284 {w : am_Wd} {l0 : Nat} {l1 : Int64} {l3 : Nat} {l4 : Nat} {l5 : Int32} : am_run 265 284 [some (.ref l0), some (.long l1), none, some (.ref l3), some (.ref l4), some (.int l5), none] [] w = if (nI 36) ≤ l5 then am_run 265 329 [some (.ref l0), some (.long l1), none, some (.ref l3), none, none, none] [] w else am_run 265 291 [some (.ref l0), some (.long l1), none, some (.ref l3), some (.ref l4), some (.int l5), none] [] w := by
  refine (bu (ls'' := [some (.ref l0), some (.long l1), none, some (.ref l3), some (.ref l4), some (.int l5), none]) (st' := [.int l5]) bf265_284 bf265_286 rfl rfl).trans ?_
  refine (bu (ls'' := [some (.ref l0), some (.long l1), none, some (.ref l3), some (.ref l4), some (.int l5), none]) (st' := [.int (nI 36), .int l5]) bf265_286 bf265_288 rfl rfl).trans ?_
  exact bic bf265_288 rfl bf265_329 bf265_291 rfl rfl rfl
theorem bk265_329 {w : am_Wd} {l0 : Nat} {l1 : Int64} {l3 : Nat} : am_run 265 329 [some (.ref l0), some (.long l1), none, some (.ref l3), none, none, none] [] w = am_run 265 105 [some (.ref l0), some (.long l1), none, some (.ref l3), none, none, none] [] w := by
  refine (bu (ls'' := [some (.ref l0), some (.long l1), none, some (.ref l3), none, none, none]) (st' := []) bf265_329 bf265_105 rfl rfl).trans ?_
  rfl
theorem bk265_291 {w : am_Wd} {l0 : Nat} {l1 : Int64} {l3 : Nat} {l4 : Nat} {l5 : Int32} : am_run 265 291 [some (.ref l0), some (.long l1), none, some (.ref l3), some (.ref l4), some (.int l5), none] [] w = am_run 265 294 [some (.ref l0), some (.long l1), none, some (.ref l3), some (.ref l4), some (.int l5), some (.int (nI 1))] [] w := by
  refine (bu (ls'' := [some (.ref l0), some (.long l1), none, some (.ref l3), some (.ref l4), some (.int l5), none]) (st' := [.int (nI 1)]) bf265_291 bf265_292 rfl rfl).trans ?_
  refine (bu (ls'' := [some (.ref l0), some (.long l1), none, some (.ref l3), some (.ref l4), some (.int l5), some (.int (nI 1))]) (st' := []) bf265_292 bf265_294 rfl rfl).trans ?_
  rfl
theorem bk265_294 {w : am_Wd} {l0 : Nat} {l1 : Int64} {l3 : Nat} {l4 : Nat} {l5 : Int32} {l6 : Int32} : am_run 265 294 [some (.ref l0), some (.long l1), none, some (.ref l3), some (.ref l4), some (.int l5), some (.int l6)] [] w = if (nI 2) < l6 then am_run 265 323 [some (.ref l0), some (.long l1), none, some (.ref l3), some (.ref l4), some (.int l5), none] [] w else am_run 265 300 [some (.ref l0), some (.long l1), none, some (.ref l3), some (.ref l4), some (.int l5), some (.int l6)] [] w := by
  refine (bu (ls'' := [some (.ref l0), some (.long l1), none, some (.ref l3), some (.ref l4), some (.int l5), some (.int l6)]) (st' := [.int l6]) bf265_294 bf265_296 rfl rfl).trans ?_
  refine (bu (ls'' := [some (.ref l0), some (.long l1), none, some (.ref l3), some (.ref l4), some (.int l5), some (.int l6)]) (st' := [.int (nI 2), .int l6]) bf265_296 bf265_297 rfl rfl).trans ?_
  exact bic bf265_297 rfl bf265_323 bf265_300 rfl rfl rfl
theorem bk265_323 {w : am_Wd} {l0 : Nat} {l1 : Int64} {l3 : Nat} {l4 : Nat} {l5 : Int32} : am_run 265 323 [some (.ref l0), some (.long l1), none, some (.ref l3), some (.ref l4), some (.int l5), none] [] w = am_run 265 284 [some (.ref l0), some (.long l1), none, some (.ref l3), some (.ref l4), some (.int (l5 + (nI 1))), none] [] w := by
  refine (bu (ls'' := [some (.ref l0), some (.long l1), none, some (.ref l3), some (.ref l4), some (.int (l5 + (nI 1))), none]) (st' := []) bf265_323 bf265_326 rfl rfl).trans ?_
  refine (bu (ls'' := [some (.ref l0), some (.long l1), none, some (.ref l3), some (.ref l4), some (.int (l5 + (nI 1))), none]) (st' := []) bf265_326 bf265_284 rfl rfl).trans ?_
  rfl
theorem bk265_300 {w : am_Wd} {l0 : Nat} {l1 : Int64} {l3 : Nat} {l4 : Nat} {l5 : Int32} {l6 : Int32} : am_run 265 300 [some (.ref l0), some (.long l1), none, some (.ref l3), some (.ref l4), some (.int l5), some (.int l6)] [] w = (am_x 174 [.ref l4, .int l5, .int l6] w).bind fun r => bct r fun v w' => am_run 265 314 [some (.ref l0), none, none, some (.ref l3), some (.ref l4), some (.int l5), some (.int l6)] (v.toList ++ [.long (l1 * (lN 31))]) w' := by
  refine (bu (ls'' := [some (.ref l0), none, none, some (.ref l3), some (.ref l4), some (.int l5), some (.int l6)]) (st' := [.long l1]) bf265_300 bf265_301 rfl rfl).trans ?_
  refine (bu (ls'' := [some (.ref l0), none, none, some (.ref l3), some (.ref l4), some (.int l5), some (.int l6)]) (st' := [.long (lN 31), .long l1]) bf265_301 bf265_304 rfl rfl).trans ?_
  refine (bu (ls'' := [some (.ref l0), none, none, some (.ref l3), some (.ref l4), some (.int l5), some (.int l6)]) (st' := [.long (l1 * (lN 31))]) bf265_304 bf265_305 rfl rfl).trans ?_
  refine (bu (ls'' := [some (.ref l0), none, none, some (.ref l3), some (.ref l4), some (.int l5), some (.int l6)]) (st' := [.ref l4, .long (l1 * (lN 31))]) bf265_305 bf265_307 rfl rfl).trans ?_
  refine (bu (ls'' := [some (.ref l0), none, none, some (.ref l3), some (.ref l4), some (.int l5), some (.int l6)]) (st' := [.int l5, .ref l4, .long (l1 * (lN 31))]) bf265_307 bf265_309 rfl rfl).trans ?_
  refine (bu (ls'' := [some (.ref l0), none, none, some (.ref l3), some (.ref l4), some (.int l5), some (.int l6)]) (st' := [.int l6, .int l5, .ref l4, .long (l1 * (lN 31))]) bf265_309 bf265_311 rfl rfl).trans ?_
  exact bkS bf265_311 bf265_314 rfl (by decide +kernel) (Nat.le_of_ble_eq_true rfl) rfl (bhd rfl)
theorem bk265_314 {w : am_Wd} {l0 : Nat} {l3 : Nat} {l4 : Nat} {l5 : Int32} {l6 : Int32} {s0 : Int32} {s1 : Int64} : am_run 265 314 [some (.ref l0), none, none, some (.ref l3), some (.ref l4), some (.int l5), some (.int l6)] [.int s0, .long s1] w = am_run 265 294 [some (.ref l0), some (.long (s1 + (Int32.toInt64 s0))), none, some (.ref l3), some (.ref l4), some (.int l5), some (.int (l6 + (nI 1)))] [] w := by
  refine (bu (ls'' := [some (.ref l0), none, none, some (.ref l3), some (.ref l4), some (.int l5), some (.int l6)]) (st' := [.long (Int32.toInt64 s0), .long s1]) bf265_314 bf265_315 rfl rfl).trans ?_
  refine (bu (ls'' := [some (.ref l0), none, none, some (.ref l3), some (.ref l4), some (.int l5), some (.int l6)]) (st' := [.long (s1 + (Int32.toInt64 s0))]) bf265_315 bf265_316 rfl rfl).trans ?_
  refine (bu (ls'' := [some (.ref l0), some (.long (s1 + (Int32.toInt64 s0))), none, some (.ref l3), some (.ref l4), some (.int l5), some (.int l6)]) (st' := []) bf265_316 bf265_317 rfl rfl).trans ?_
  refine (bu (ls'' := [some (.ref l0), some (.long (s1 + (Int32.toInt64 s0))), none, some (.ref l3), some (.ref l4), some (.int l5), some (.int (l6 + (nI 1)))]) (st' := []) bf265_317 bf265_320 rfl rfl).trans ?_
  refine (bu (ls'' := [some (.ref l0), some (.long (s1 + (Int32.toInt64 s0))), none, some (.ref l3), some (.ref l4), some (.int l5), some (.int (l6 + (nI 1)))]) (st' := []) bf265_320 bf265_294 rfl rfl).trans ?_
  rfl
theorem bf266_0 : am_fetch (am_mth 266) 0 = some (.aload_n 0, 1, [], []) := by decide +kernel
theorem bf266_1 : am_fetch (am_mth 266) 1 = some (.getfield 35, 3, [0, 11, 0, 1197], [0]) := by decide +kernel
theorem bf266_4 : am_fetch (am_mth 266) 4 = some (.ireturn, 1, [0], [0]) := by decide +kernel
theorem bk266_0 {w : am_Wd} {l0 : Nat} : am_run 266 0 [some (.ref l0)] [] w = (am_gf w l0 11 0).bind fun v => am_run 266 4 [none] (v :: []) w := by
  refine (bu (ls'' := [none]) (st' := [.ref l0]) bf266_0 bf266_1 rfl rfl).trans ?_
  exact bh bf266_1 bf266_4 rfl (fun _ _ => am_ge_rf w) rfl
theorem bk266_4 {w : am_Wd} {s0 : Int32} : am_run 266 4 [none] [.int s0] w = some (.inl (some (.int s0)), w) := by
  exact am_e2 bf266_4 rfl (am_ge_rf w)
theorem bf267_0 : am_fetch (am_mth 267) 0 = some (.new 8, 3, [0, 8, 9, 79, 80, 46], [1, 2, 3, 4, 5, 6, 7]) := by decide +kernel
theorem bf267_3 : am_fetch (am_mth 267) 3 = some (.dup, 1, [], [1, 2, 3, 4, 5, 6, 7]) := by decide +kernel
theorem bf267_4 : am_fetch (am_mth 267) 4 = some (.invokespecial 119, 3, [0, 89, 0, 81, 82, 46], [1, 2, 3, 4, 5, 6, 7]) := by decide +kernel
theorem bf267_7 : am_fetch (am_mth 267) 7 = some (.astore_n 1, 1, [], [1, 2, 3, 4, 5, 6, 7]) := by decide +kernel
theorem bf267_8 : am_fetch (am_mth 267) 8 = some (.new 120, 3, [0, 11, 12, 1159, 1160, 48], [2, 3, 4, 5, 6, 7]) := by decide +kernel
theorem bf267_11 : am_fetch (am_mth 267) 11 = some (.dup, 1, [], [2, 3, 4, 5, 6, 7]) := by decide +kernel
theorem bf267_12 : am_fetch (am_mth 267) 12 = some (.invokespecial 122, 3, [0, 172, 0, 1161, 1162, 48], [2, 3, 4, 5, 6, 7]) := by decide +kernel
theorem bf267_15 : am_fetch (am_mth 267) 15 = some (.astore_n 2, 1, [], [2, 3, 4, 5, 6, 7]) := by decide +kernel
theorem bf267_16 : am_fetch (am_mth 267) 16 = some (.new 14, 3, [0, 9, 3, 479, 480, 52], [3, 4, 5, 6, 7]) := by decide +kernel
theorem bf267_19 : am_fetch (am_mth 267) 19 = some (.dup, 1, [], [3, 4, 5, 6, 7]) := by decide +kernel
theorem bf267_20 : am_fetch (am_mth 267) 20 = some (.invokespecial 123, 3, [0, 35, 0, 481, 482, 52], [3, 4, 5, 6, 7]) := by decide +kernel
theorem bf267_23 : am_fetch (am_mth 267) 23 = some (.astore_n 3, 1, [], [3, 4, 5, 6, 7]) := by decide +kernel
theorem bf267_24 : am_fetch (am_mth 267) 24 = some (.iconst 0, 1, [], [4, 5, 6, 7]) := by decide +kernel
theorem bf267_25 : am_fetch (am_mth 267) 25 = some (.istore 4, 2, [], [4, 5, 6, 7]) := by decide +kernel
theorem bf267_27 : am_fetch (am_mth 267) 27 = some (.iload 4, 2, [], [5, 6, 7]) := by decide +kernel
theorem bf267_29 : am_fetch (am_mth 267) 29 = some (.aload_n 0, 1, [], [5, 6, 7]) := by decide +kernel
theorem bf267_30 : am_fetch (am_mth 267) 30 = some (.arraylength, 1, [], [5, 6, 7]) := by decide +kernel
theorem bf267_31 : am_fetch (am_mth 267) 31 = some (.iconst 5, 1, [], [5, 6, 7]) := by decide +kernel
theorem bf267_32 : am_fetch (am_mth 267) 32 = some (.isub, 1, [], [5, 6, 7]) := by decide +kernel
theorem bf267_33 : am_fetch (am_mth 267) 33 = some (.if_icmp .gt 1405, 3, [], [5, 6, 7]) := by decide +kernel
theorem bf267_36 : am_fetch (am_mth 267) 36 = some (.aload_n 0, 1, [], [5, 6, 7]) := by decide +kernel
theorem bf267_37 : am_fetch (am_mth 267) 37 = some (.iload 4, 2, [], [5, 6, 7]) := by decide +kernel
theorem bf267_39 : am_fetch (am_mth 267) 39 = some (.iaload, 1, [], [5, 6, 7]) := by decide +kernel
theorem bf267_40 : am_fetch (am_mth 267) 40 = some (.bipush 31, 2, [], [5, 6, 7]) := by decide +kernel
theorem bf267_42 : am_fetch (am_mth 267) 42 = some (.iand, 1, [], [5, 6, 7]) := by decide +kernel
theorem bf267_43 : am_fetch (am_mth 267) 43 = some (.tableswitch 1389 0 28 #[129, 193, 221, 305, 385, 441, 525, 581, 637, 677, 705, 745, 773, 786, 838, 878, 906, 934, 986, 1026, 1066, 1118, 1158, 1186, 1226, 1254, 1294, 1363, 1376], 129, [], [5, 6, 7]) := by decide +kernel
theorem bf267_172 : am_fetch (am_mth 267) 172 = some (.aload_n 1, 1, [], [5, 6, 7]) := by decide +kernel
theorem bf267_173 : am_fetch (am_mth 267) 173 = some (.aload_n 0, 1, [], [5, 6, 7]) := by decide +kernel
theorem bf267_174 : am_fetch (am_mth 267) 174 = some (.iload 4, 2, [], [5, 6, 7]) := by decide +kernel
theorem bf267_176 : am_fetch (am_mth 267) 176 = some (.iconst 1, 1, [], [5, 6, 7]) := by decide +kernel
theorem bf267_177 : am_fetch (am_mth 267) 177 = some (.iadd, 1, [], [5, 6, 7]) := by decide +kernel
theorem bf267_178 : am_fetch (am_mth 267) 178 = some (.iaload, 1, [], [5, 6, 7]) := by decide +kernel
theorem bf267_179 : am_fetch (am_mth 267) 179 = some (.aload_n 0, 1, [], [5, 6, 7]) := by decide +kernel
theorem bf267_180 : am_fetch (am_mth 267) 180 = some (.iload 4, 2, [], [5, 6, 7]) := by decide +kernel
theorem bf267_182 : am_fetch (am_mth 267) 182 = some (.iconst 2, 1, [], [5, 6, 7]) := by decide +kernel
theorem bf267_183 : am_fetch (am_mth 267) 183 = some (.iadd, 1, [], [5, 6, 7]) := by decide +kernel
theorem bf267_184 : am_fetch (am_mth 267) 184 = some (.iaload, 1, [], [5, 6, 7]) := by decide +kernel
theorem bf267_185 : am_fetch (am_mth 267) 185 = some (.aload_n 0, 1, [], [5, 6, 7]) := by decide +kernel
theorem bf267_186 : am_fetch (am_mth 267) 186 = some (.iload 4, 2, [], [5, 6, 7]) := by decide +kernel
theorem bf267_188 : am_fetch (am_mth 267) 188 = some (.iconst 3, 1, [], [5, 6, 7]) := by decide +kernel
theorem bf267_189 : am_fetch (am_mth 267) 189 = some (.iadd, 1, [], [5, 6, 7]) := by decide +kernel
theorem bf267_190 : am_fetch (am_mth 267) 190 = some (.iaload, 1, [], [5, 6, 7]) := by decide +kernel
theorem bf267_191 : am_fetch (am_mth 267) 191 = some (.aload_n 0, 1, [], [5, 6, 7]) := by decide +kernel
theorem bf267_192 : am_fetch (am_mth 267) 192 = some (.iload 4, 2, [], [5, 6, 7]) := by decide +kernel
theorem bf267_194 : am_fetch (am_mth 267) 194 = some (.iconst 4, 1, [], [5, 6, 7]) := by decide +kernel
theorem bf267_195 : am_fetch (am_mth 267) 195 = some (.iadd, 1, [], [5, 6, 7]) := by decide +kernel
theorem bf267_196 : am_fetch (am_mth 267) 196 = some (.iaload, 1, [], [5, 6, 7]) := by decide +kernel
theorem bf267_197 : am_fetch (am_mth 267) 197 = some (.aload_n 3, 1, [], [5, 6, 7]) := by decide +kernel
theorem bf267_198 : am_fetch (am_mth 267) 198 = some (.invokestatic 124, 3, [0, 216, 6, 495, 496, 45], [5, 6, 7]) := by decide +kernel
theorem bf267_201 : am_fetch (am_mth 267) 201 = some (.istore 5, 2, [], [5, 6, 7]) := by decide +kernel
theorem bf267_203 : am_fetch (am_mth 267) 203 = some (.aload_n 2, 1, [], [5, 6, 7]) := by decide +kernel
theorem bf267_204 : am_fetch (am_mth 267) 204 = some (.aload_n 0, 1, [], [5, 6, 7]) := by decide +kernel
theorem bf267_205 : am_fetch (am_mth 267) 205 = some (.iload 4, 2, [], [5, 6, 7]) := by decide +kernel
theorem bf267_207 : am_fetch (am_mth 267) 207 = some (.iconst 1, 1, [], [5, 6, 7]) := by decide +kernel
theorem bf267_208 : am_fetch (am_mth 267) 208 = some (.iadd, 1, [], [5, 6, 7]) := by decide +kernel
theorem bf267_209 : am_fetch (am_mth 267) 209 = some (.iaload, 1, [], [5, 6, 7]) := by decide +kernel
theorem bf267_210 : am_fetch (am_mth 267) 210 = some (.aload_n 0, 1, [], [5, 6, 7]) := by decide +kernel
theorem bf267_211 : am_fetch (am_mth 267) 211 = some (.iload 4, 2, [], [5, 6, 7]) := by decide +kernel
theorem bf267_213 : am_fetch (am_mth 267) 213 = some (.iconst 2, 1, [], [5, 6, 7]) := by decide +kernel
theorem bf267_214 : am_fetch (am_mth 267) 214 = some (.iadd, 1, [], [5, 6, 7]) := by decide +kernel
theorem bf267_215 : am_fetch (am_mth 267) 215 = some (.iaload, 1, [], [5, 6, 7]) := by decide +kernel
theorem bf267_216 : am_fetch (am_mth 267) 216 = some (.aload_n 0, 1, [], [5, 6, 7]) := by decide +kernel
theorem bf267_217 : am_fetch (am_mth 267) 217 = some (.iload 4, 2, [], [5, 6, 7]) := by decide +kernel
theorem bf267_219 : am_fetch (am_mth 267) 219 = some (.iconst 3, 1, [], [5, 6, 7]) := by decide +kernel
theorem bf267_220 : am_fetch (am_mth 267) 220 = some (.iadd, 1, [], [5, 6, 7]) := by decide +kernel
theorem bf267_221 : am_fetch (am_mth 267) 221 = some (.iaload, 1, [], [5, 6, 7]) := by decide +kernel
theorem bf267_222 : am_fetch (am_mth 267) 222 = some (.aload_n 0, 1, [], [5, 6, 7]) := by decide +kernel
theorem bf267_223 : am_fetch (am_mth 267) 223 = some (.iload 4, 2, [], [5, 6, 7]) := by decide +kernel
theorem bf267_225 : am_fetch (am_mth 267) 225 = some (.iconst 4, 1, [], [5, 6, 7]) := by decide +kernel
theorem bf267_226 : am_fetch (am_mth 267) 226 = some (.iadd, 1, [], [5, 6, 7]) := by decide +kernel
theorem bf267_227 : am_fetch (am_mth 267) 227 = some (.iaload, 1, [], [5, 6, 7]) := by decide +kernel
theorem bf267_228 : am_fetch (am_mth 267) 228 = some (.invokevirtual 129, 3, [0, 176, 4, 11, 1238, 1239, 1240, 48], [5, 6, 7]) := by decide +kernel
theorem bf267_231 : am_fetch (am_mth 267) 231 = some (.istore 6, 2, [], [5, 6, 7]) := by decide +kernel
theorem bf267_233 : am_fetch (am_mth 267) 233 = some (.goto 1199, 3, [], [5, 6, 7]) := by decide +kernel
theorem bf267_236 : am_fetch (am_mth 267) 236 = some (.aload_n 1, 1, [], [5, 6, 7]) := by decide +kernel
theorem bf267_237 : am_fetch (am_mth 267) 237 = some (.aload_n 0, 1, [], [5, 6, 7]) := by decide +kernel
theorem bf267_238 : am_fetch (am_mth 267) 238 = some (.iload 4, 2, [], [5, 6, 7]) := by decide +kernel
theorem bf267_240 : am_fetch (am_mth 267) 240 = some (.iconst 1, 1, [], [5, 6, 7]) := by decide +kernel
theorem bf267_241 : am_fetch (am_mth 267) 241 = some (.iadd, 1, [], [5, 6, 7]) := by decide +kernel
theorem bf267_242 : am_fetch (am_mth 267) 242 = some (.iaload, 1, [], [5, 6, 7]) := by decide +kernel
theorem bf267_243 : am_fetch (am_mth 267) 243 = some (.aload_n 3, 1, [], [5, 6, 7]) := by decide +kernel
theorem bf267_244 : am_fetch (am_mth 267) 244 = some (.invokestatic 130, 3, [0, 233, 3, 510, 511, 45], [5, 6, 7]) := by decide +kernel
theorem bf267_247 : am_fetch (am_mth 267) 247 = some (.istore 5, 2, [], [5, 6, 7]) := by decide +kernel
theorem bf267_249 : am_fetch (am_mth 267) 249 = some (.aload_n 2, 1, [], [5, 6, 7]) := by decide +kernel
theorem bf267_250 : am_fetch (am_mth 267) 250 = some (.aload_n 0, 1, [], [5, 6, 7]) := by decide +kernel
theorem bf267_251 : am_fetch (am_mth 267) 251 = some (.iload 4, 2, [], [5, 6, 7]) := by decide +kernel
theorem bf267_253 : am_fetch (am_mth 267) 253 = some (.iconst 1, 1, [], [5, 6, 7]) := by decide +kernel
theorem bf267_254 : am_fetch (am_mth 267) 254 = some (.iadd, 1, [], [5, 6, 7]) := by decide +kernel
theorem bf267_255 : am_fetch (am_mth 267) 255 = some (.iaload, 1, [], [5, 6, 7]) := by decide +kernel
theorem bf267_256 : am_fetch (am_mth 267) 256 = some (.invokevirtual 133, 3, [0, 206, 1, 11, 1269, 1270, 1271, 48], [5, 6, 7]) := by decide +kernel
theorem bf267_259 : am_fetch (am_mth 267) 259 = some (.istore 6, 2, [], [5, 6, 7]) := by decide +kernel
theorem bf267_261 : am_fetch (am_mth 267) 261 = some (.goto 1171, 3, [], [5, 6, 7]) := by decide +kernel
theorem bf267_264 : am_fetch (am_mth 267) 264 = some (.aload_n 1, 1, [], [5, 6, 7]) := by decide +kernel
theorem bf267_265 : am_fetch (am_mth 267) 265 = some (.aload_n 0, 1, [], [5, 6, 7]) := by decide +kernel
theorem bf267_266 : am_fetch (am_mth 267) 266 = some (.iload 4, 2, [], [5, 6, 7]) := by decide +kernel
theorem bf267_268 : am_fetch (am_mth 267) 268 = some (.iconst 1, 1, [], [5, 6, 7]) := by decide +kernel
theorem bf267_269 : am_fetch (am_mth 267) 269 = some (.iadd, 1, [], [5, 6, 7]) := by decide +kernel
theorem bf267_270 : am_fetch (am_mth 267) 270 = some (.iaload, 1, [], [5, 6, 7]) := by decide +kernel
theorem bf267_271 : am_fetch (am_mth 267) 271 = some (.aload_n 0, 1, [], [5, 6, 7]) := by decide +kernel
theorem bf267_272 : am_fetch (am_mth 267) 272 = some (.iload 4, 2, [], [5, 6, 7]) := by decide +kernel
theorem bf267_274 : am_fetch (am_mth 267) 274 = some (.iconst 2, 1, [], [5, 6, 7]) := by decide +kernel
theorem bf267_275 : am_fetch (am_mth 267) 275 = some (.iadd, 1, [], [5, 6, 7]) := by decide +kernel
theorem bf267_276 : am_fetch (am_mth 267) 276 = some (.iaload, 1, [], [5, 6, 7]) := by decide +kernel
theorem bf267_277 : am_fetch (am_mth 267) 277 = some (.ifCond .eq 7, 3, [], [5, 6, 7]) := by decide +kernel
theorem bf267_280 : am_fetch (am_mth 267) 280 = some (.iconst 1, 1, [], [5, 6, 7]) := by decide +kernel
theorem bf267_281 : am_fetch (am_mth 267) 281 = some (.goto 4, 3, [], [5, 6, 7]) := by decide +kernel
theorem bf267_284 : am_fetch (am_mth 267) 284 = some (.iconst 0, 1, [], [5, 6, 7]) := by decide +kernel
theorem bf267_285 : am_fetch (am_mth 267) 285 = some (.aload_n 0, 1, [], [5, 6, 7]) := by decide +kernel
theorem bf267_286 : am_fetch (am_mth 267) 286 = some (.iload 4, 2, [], [5, 6, 7]) := by decide +kernel
theorem bf267_288 : am_fetch (am_mth 267) 288 = some (.iconst 3, 1, [], [5, 6, 7]) := by decide +kernel
theorem bf267_289 : am_fetch (am_mth 267) 289 = some (.iadd, 1, [], [5, 6, 7]) := by decide +kernel
theorem bf267_290 : am_fetch (am_mth 267) 290 = some (.iaload, 1, [], [5, 6, 7]) := by decide +kernel
theorem bf267_291 : am_fetch (am_mth 267) 291 = some (.ifCond .eq 7, 3, [], [5, 6, 7]) := by decide +kernel
theorem bf267_294 : am_fetch (am_mth 267) 294 = some (.iconst 1, 1, [], [5, 6, 7]) := by decide +kernel
theorem bf267_295 : am_fetch (am_mth 267) 295 = some (.goto 4, 3, [], [5, 6, 7]) := by decide +kernel
theorem bf267_298 : am_fetch (am_mth 267) 298 = some (.iconst 0, 1, [], [5, 6, 7]) := by decide +kernel
theorem bf267_299 : am_fetch (am_mth 267) 299 = some (.aload_n 3, 1, [], [5, 6, 7]) := by decide +kernel
theorem bf267_300 : am_fetch (am_mth 267) 300 = some (.invokestatic 134, 3, [0, 147, 5, 525, 526, 45], [5, 6, 7]) := by decide +kernel
theorem bf267_303 : am_fetch (am_mth 267) 303 = some (.istore 5, 2, [], [5, 6, 7]) := by decide +kernel
theorem bf267_305 : am_fetch (am_mth 267) 305 = some (.aload_n 2, 1, [], [5, 6, 7]) := by decide +kernel
theorem bf267_306 : am_fetch (am_mth 267) 306 = some (.aload_n 0, 1, [], [5, 6, 7]) := by decide +kernel
theorem bf267_307 : am_fetch (am_mth 267) 307 = some (.iload 4, 2, [], [5, 6, 7]) := by decide +kernel
theorem bf267_309 : am_fetch (am_mth 267) 309 = some (.iconst 1, 1, [], [5, 6, 7]) := by decide +kernel
theorem bf267_310 : am_fetch (am_mth 267) 310 = some (.iadd, 1, [], [5, 6, 7]) := by decide +kernel
theorem bf267_311 : am_fetch (am_mth 267) 311 = some (.iaload, 1, [], [5, 6, 7]) := by decide +kernel
theorem bf267_312 : am_fetch (am_mth 267) 312 = some (.aload_n 0, 1, [], [5, 6, 7]) := by decide +kernel
theorem bf267_313 : am_fetch (am_mth 267) 313 = some (.iload 4, 2, [], [5, 6, 7]) := by decide +kernel
theorem bf267_315 : am_fetch (am_mth 267) 315 = some (.iconst 2, 1, [], [5, 6, 7]) := by decide +kernel
theorem bf267_316 : am_fetch (am_mth 267) 316 = some (.iadd, 1, [], [5, 6, 7]) := by decide +kernel
theorem bf267_317 : am_fetch (am_mth 267) 317 = some (.iaload, 1, [], [5, 6, 7]) := by decide +kernel
theorem bf267_318 : am_fetch (am_mth 267) 318 = some (.ifCond .eq 7, 3, [], [5, 6, 7]) := by decide +kernel
theorem bf267_321 : am_fetch (am_mth 267) 321 = some (.iconst 1, 1, [], [5, 6, 7]) := by decide +kernel
theorem bf267_322 : am_fetch (am_mth 267) 322 = some (.goto 4, 3, [], [5, 6, 7]) := by decide +kernel
theorem bf267_325 : am_fetch (am_mth 267) 325 = some (.iconst 0, 1, [], [5, 6, 7]) := by decide +kernel
theorem bf267_326 : am_fetch (am_mth 267) 326 = some (.aload_n 0, 1, [], [5, 6, 7]) := by decide +kernel
theorem bf267_327 : am_fetch (am_mth 267) 327 = some (.iload 4, 2, [], [5, 6, 7]) := by decide +kernel
theorem bf267_329 : am_fetch (am_mth 267) 329 = some (.iconst 3, 1, [], [5, 6, 7]) := by decide +kernel
theorem bf267_330 : am_fetch (am_mth 267) 330 = some (.iadd, 1, [], [5, 6, 7]) := by decide +kernel
theorem bf267_331 : am_fetch (am_mth 267) 331 = some (.iaload, 1, [], [5, 6, 7]) := by decide +kernel
theorem bf267_332 : am_fetch (am_mth 267) 332 = some (.ifCond .eq 7, 3, [], [5, 6, 7]) := by decide +kernel
theorem bf267_335 : am_fetch (am_mth 267) 335 = some (.iconst 1, 1, [], [5, 6, 7]) := by decide +kernel
theorem bf267_336 : am_fetch (am_mth 267) 336 = some (.goto 4, 3, [], [5, 6, 7]) := by decide +kernel
theorem bf267_339 : am_fetch (am_mth 267) 339 = some (.iconst 0, 1, [], [5, 6, 7]) := by decide +kernel
theorem bf267_340 : am_fetch (am_mth 267) 340 = some (.invokevirtual 137, 3, [0, 144, 3, 11, 1280, 1281, 1282, 48], [5, 6, 7]) := by decide +kernel
theorem bf267_343 : am_fetch (am_mth 267) 343 = some (.istore 6, 2, [], [5, 6, 7]) := by decide +kernel
theorem bf267_345 : am_fetch (am_mth 267) 345 = some (.goto 1087, 3, [], [5, 6, 7]) := by decide +kernel
theorem bf267_348 : am_fetch (am_mth 267) 348 = some (.aload_n 1, 1, [], [5, 6, 7]) := by decide +kernel
theorem bf267_349 : am_fetch (am_mth 267) 349 = some (.aload_n 0, 1, [], [5, 6, 7]) := by decide +kernel
theorem bf267_350 : am_fetch (am_mth 267) 350 = some (.iload 4, 2, [], [5, 6, 7]) := by decide +kernel
theorem bf267_352 : am_fetch (am_mth 267) 352 = some (.iconst 1, 1, [], [5, 6, 7]) := by decide +kernel
theorem bf267_353 : am_fetch (am_mth 267) 353 = some (.iadd, 1, [], [5, 6, 7]) := by decide +kernel
theorem bf267_354 : am_fetch (am_mth 267) 354 = some (.iaload, 1, [], [5, 6, 7]) := by decide +kernel
theorem bf267_355 : am_fetch (am_mth 267) 355 = some (.aload_n 0, 1, [], [5, 6, 7]) := by decide +kernel
theorem bf267_356 : am_fetch (am_mth 267) 356 = some (.iload 4, 2, [], [5, 6, 7]) := by decide +kernel
theorem bf267_358 : am_fetch (am_mth 267) 358 = some (.iconst 2, 1, [], [5, 6, 7]) := by decide +kernel
theorem bf267_359 : am_fetch (am_mth 267) 359 = some (.iadd, 1, [], [5, 6, 7]) := by decide +kernel
theorem bf267_360 : am_fetch (am_mth 267) 360 = some (.iaload, 1, [], [5, 6, 7]) := by decide +kernel
theorem bf267_361 : am_fetch (am_mth 267) 361 = some (.aload_n 0, 1, [], [5, 6, 7]) := by decide +kernel
theorem bf267_362 : am_fetch (am_mth 267) 362 = some (.iload 4, 2, [], [5, 6, 7]) := by decide +kernel
theorem bf267_364 : am_fetch (am_mth 267) 364 = some (.iconst 3, 1, [], [5, 6, 7]) := by decide +kernel
theorem bf267_365 : am_fetch (am_mth 267) 365 = some (.iadd, 1, [], [5, 6, 7]) := by decide +kernel
theorem bf267_366 : am_fetch (am_mth 267) 366 = some (.iaload, 1, [], [5, 6, 7]) := by decide +kernel
theorem bf267_367 : am_fetch (am_mth 267) 367 = some (.aload_n 0, 1, [], [5, 6, 7]) := by decide +kernel
theorem bf267_368 : am_fetch (am_mth 267) 368 = some (.iload 4, 2, [], [5, 6, 7]) := by decide +kernel
theorem bf267_370 : am_fetch (am_mth 267) 370 = some (.iconst 4, 1, [], [5, 6, 7]) := by decide +kernel
theorem bf267_371 : am_fetch (am_mth 267) 371 = some (.iadd, 1, [], [5, 6, 7]) := by decide +kernel
theorem bf267_372 : am_fetch (am_mth 267) 372 = some (.iaload, 1, [], [5, 6, 7]) := by decide +kernel
theorem bf267_373 : am_fetch (am_mth 267) 373 = some (.ifCond .eq 7, 3, [], [5, 6, 7]) := by decide +kernel
theorem bf267_376 : am_fetch (am_mth 267) 376 = some (.iconst 1, 1, [], [5, 6, 7]) := by decide +kernel
theorem bf267_377 : am_fetch (am_mth 267) 377 = some (.goto 4, 3, [], [5, 6, 7]) := by decide +kernel
theorem bf267_380 : am_fetch (am_mth 267) 380 = some (.iconst 0, 1, [], [5, 6, 7]) := by decide +kernel
theorem bf267_381 : am_fetch (am_mth 267) 381 = some (.aload_n 3, 1, [], [5, 6, 7]) := by decide +kernel
theorem bf267_382 : am_fetch (am_mth 267) 382 = some (.invokestatic 138, 3, [0, 217, 6, 537, 538, 45], [5, 6, 7]) := by decide +kernel
theorem bf267_385 : am_fetch (am_mth 267) 385 = some (.istore 5, 2, [], [5, 6, 7]) := by decide +kernel
theorem bf267_387 : am_fetch (am_mth 267) 387 = some (.aload_n 2, 1, [], [5, 6, 7]) := by decide +kernel
theorem bf267_388 : am_fetch (am_mth 267) 388 = some (.aload_n 0, 1, [], [5, 6, 7]) := by decide +kernel
theorem bf267_389 : am_fetch (am_mth 267) 389 = some (.iload 4, 2, [], [5, 6, 7]) := by decide +kernel
theorem bf267_391 : am_fetch (am_mth 267) 391 = some (.iconst 1, 1, [], [5, 6, 7]) := by decide +kernel
theorem bf267_392 : am_fetch (am_mth 267) 392 = some (.iadd, 1, [], [5, 6, 7]) := by decide +kernel
theorem bf267_393 : am_fetch (am_mth 267) 393 = some (.iaload, 1, [], [5, 6, 7]) := by decide +kernel
theorem bf267_394 : am_fetch (am_mth 267) 394 = some (.aload_n 0, 1, [], [5, 6, 7]) := by decide +kernel
theorem bf267_395 : am_fetch (am_mth 267) 395 = some (.iload 4, 2, [], [5, 6, 7]) := by decide +kernel
theorem bf267_397 : am_fetch (am_mth 267) 397 = some (.iconst 2, 1, [], [5, 6, 7]) := by decide +kernel
theorem bf267_398 : am_fetch (am_mth 267) 398 = some (.iadd, 1, [], [5, 6, 7]) := by decide +kernel
theorem bf267_399 : am_fetch (am_mth 267) 399 = some (.iaload, 1, [], [5, 6, 7]) := by decide +kernel
theorem bf267_400 : am_fetch (am_mth 267) 400 = some (.aload_n 0, 1, [], [5, 6, 7]) := by decide +kernel
theorem bf267_401 : am_fetch (am_mth 267) 401 = some (.iload 4, 2, [], [5, 6, 7]) := by decide +kernel
theorem bf267_403 : am_fetch (am_mth 267) 403 = some (.iconst 3, 1, [], [5, 6, 7]) := by decide +kernel
theorem bf267_404 : am_fetch (am_mth 267) 404 = some (.iadd, 1, [], [5, 6, 7]) := by decide +kernel
theorem bf267_405 : am_fetch (am_mth 267) 405 = some (.iaload, 1, [], [5, 6, 7]) := by decide +kernel
theorem bf267_406 : am_fetch (am_mth 267) 406 = some (.aload_n 0, 1, [], [5, 6, 7]) := by decide +kernel
theorem bf267_407 : am_fetch (am_mth 267) 407 = some (.iload 4, 2, [], [5, 6, 7]) := by decide +kernel
theorem bf267_409 : am_fetch (am_mth 267) 409 = some (.iconst 4, 1, [], [5, 6, 7]) := by decide +kernel
theorem bf267_410 : am_fetch (am_mth 267) 410 = some (.iadd, 1, [], [5, 6, 7]) := by decide +kernel
theorem bf267_411 : am_fetch (am_mth 267) 411 = some (.iaload, 1, [], [5, 6, 7]) := by decide +kernel
theorem bf267_412 : am_fetch (am_mth 267) 412 = some (.ifCond .eq 7, 3, [], [5, 6, 7]) := by decide +kernel
theorem bf267_415 : am_fetch (am_mth 267) 415 = some (.iconst 1, 1, [], [5, 6, 7]) := by decide +kernel
theorem bf267_416 : am_fetch (am_mth 267) 416 = some (.goto 4, 3, [], [5, 6, 7]) := by decide +kernel
theorem bf267_419 : am_fetch (am_mth 267) 419 = some (.iconst 0, 1, [], [5, 6, 7]) := by decide +kernel
theorem bf267_420 : am_fetch (am_mth 267) 420 = some (.invokevirtual 141, 3, [0, 207, 4, 11, 1287, 1288, 1289, 48], [5, 6, 7]) := by decide +kernel
theorem bf267_423 : am_fetch (am_mth 267) 423 = some (.istore 6, 2, [], [5, 6, 7]) := by decide +kernel
theorem bf267_425 : am_fetch (am_mth 267) 425 = some (.goto 1007, 3, [], [5, 6, 7]) := by decide +kernel
theorem bf267_428 : am_fetch (am_mth 267) 428 = some (.aload_n 1, 1, [], [5, 6, 7]) := by decide +kernel
theorem bf267_429 : am_fetch (am_mth 267) 429 = some (.aload_n 0, 1, [], [5, 6, 7]) := by decide +kernel
theorem bf267_430 : am_fetch (am_mth 267) 430 = some (.iload 4, 2, [], [5, 6, 7]) := by decide +kernel
theorem bf267_432 : am_fetch (am_mth 267) 432 = some (.iconst 1, 1, [], [5, 6, 7]) := by decide +kernel
theorem bf267_433 : am_fetch (am_mth 267) 433 = some (.iadd, 1, [], [5, 6, 7]) := by decide +kernel
theorem bf267_434 : am_fetch (am_mth 267) 434 = some (.iaload, 1, [], [5, 6, 7]) := by decide +kernel
theorem bf267_435 : am_fetch (am_mth 267) 435 = some (.aload_n 0, 1, [], [5, 6, 7]) := by decide +kernel
theorem bf267_436 : am_fetch (am_mth 267) 436 = some (.iload 4, 2, [], [5, 6, 7]) := by decide +kernel
theorem bf267_438 : am_fetch (am_mth 267) 438 = some (.iconst 2, 1, [], [5, 6, 7]) := by decide +kernel
theorem bf267_439 : am_fetch (am_mth 267) 439 = some (.iadd, 1, [], [5, 6, 7]) := by decide +kernel
theorem bf267_440 : am_fetch (am_mth 267) 440 = some (.iaload, 1, [], [5, 6, 7]) := by decide +kernel
theorem bf267_441 : am_fetch (am_mth 267) 441 = some (.ifCond .eq 7, 3, [], [5, 6, 7]) := by decide +kernel
theorem bf267_444 : am_fetch (am_mth 267) 444 = some (.iconst 1, 1, [], [5, 6, 7]) := by decide +kernel
theorem bf267_445 : am_fetch (am_mth 267) 445 = some (.goto 4, 3, [], [5, 6, 7]) := by decide +kernel
theorem bf267_448 : am_fetch (am_mth 267) 448 = some (.iconst 0, 1, [], [5, 6, 7]) := by decide +kernel
theorem bf267_449 : am_fetch (am_mth 267) 449 = some (.aload_n 3, 1, [], [5, 6, 7]) := by decide +kernel
theorem bf267_450 : am_fetch (am_mth 267) 450 = some (.invokestatic 142, 3, [0, 253, 4, 646, 647, 45], [5, 6, 7]) := by decide +kernel
theorem bf267_453 : am_fetch (am_mth 267) 453 = some (.istore 5, 2, [], [5, 6, 7]) := by decide +kernel
theorem bf267_455 : am_fetch (am_mth 267) 455 = some (.aload_n 2, 1, [], [5, 6, 7]) := by decide +kernel
theorem bf267_456 : am_fetch (am_mth 267) 456 = some (.aload_n 0, 1, [], [5, 6, 7]) := by decide +kernel
theorem bf267_457 : am_fetch (am_mth 267) 457 = some (.iload 4, 2, [], [5, 6, 7]) := by decide +kernel
theorem bf267_459 : am_fetch (am_mth 267) 459 = some (.iconst 1, 1, [], [5, 6, 7]) := by decide +kernel
theorem bf267_460 : am_fetch (am_mth 267) 460 = some (.iadd, 1, [], [5, 6, 7]) := by decide +kernel
theorem bf267_461 : am_fetch (am_mth 267) 461 = some (.iaload, 1, [], [5, 6, 7]) := by decide +kernel
theorem bf267_462 : am_fetch (am_mth 267) 462 = some (.aload_n 0, 1, [], [5, 6, 7]) := by decide +kernel
theorem bf267_463 : am_fetch (am_mth 267) 463 = some (.iload 4, 2, [], [5, 6, 7]) := by decide +kernel
theorem bf267_465 : am_fetch (am_mth 267) 465 = some (.iconst 2, 1, [], [5, 6, 7]) := by decide +kernel
theorem bf267_466 : am_fetch (am_mth 267) 466 = some (.iadd, 1, [], [5, 6, 7]) := by decide +kernel
theorem bf267_467 : am_fetch (am_mth 267) 467 = some (.iaload, 1, [], [5, 6, 7]) := by decide +kernel
theorem bf267_468 : am_fetch (am_mth 267) 468 = some (.ifCond .eq 7, 3, [], [5, 6, 7]) := by decide +kernel
theorem bf267_471 : am_fetch (am_mth 267) 471 = some (.iconst 1, 1, [], [5, 6, 7]) := by decide +kernel
theorem bf267_472 : am_fetch (am_mth 267) 472 = some (.goto 4, 3, [], [5, 6, 7]) := by decide +kernel
theorem bf267_475 : am_fetch (am_mth 267) 475 = some (.iconst 0, 1, [], [5, 6, 7]) := by decide +kernel
theorem bf267_476 : am_fetch (am_mth 267) 476 = some (.invokevirtual 145, 3, [0, 260, 2, 11, 1383, 1384, 1385, 48], [5, 6, 7]) := by decide +kernel
theorem bf267_479 : am_fetch (am_mth 267) 479 = some (.istore 6, 2, [], [5, 6, 7]) := by decide +kernel
theorem bf267_481 : am_fetch (am_mth 267) 481 = some (.goto 951, 3, [], [5, 6, 7]) := by decide +kernel
theorem bf267_484 : am_fetch (am_mth 267) 484 = some (.aload_n 1, 1, [], [5, 6, 7]) := by decide +kernel
theorem bf267_485 : am_fetch (am_mth 267) 485 = some (.aload_n 0, 1, [], [5, 6, 7]) := by decide +kernel
theorem bf267_486 : am_fetch (am_mth 267) 486 = some (.iload 4, 2, [], [5, 6, 7]) := by decide +kernel
theorem bf267_488 : am_fetch (am_mth 267) 488 = some (.iconst 1, 1, [], [5, 6, 7]) := by decide +kernel
theorem bf267_489 : am_fetch (am_mth 267) 489 = some (.iadd, 1, [], [5, 6, 7]) := by decide +kernel
theorem bf267_490 : am_fetch (am_mth 267) 490 = some (.iaload, 1, [], [5, 6, 7]) := by decide +kernel
theorem bf267_491 : am_fetch (am_mth 267) 491 = some (.aload_n 0, 1, [], [5, 6, 7]) := by decide +kernel
theorem bf267_492 : am_fetch (am_mth 267) 492 = some (.iload 4, 2, [], [5, 6, 7]) := by decide +kernel
theorem bf267_494 : am_fetch (am_mth 267) 494 = some (.iconst 2, 1, [], [5, 6, 7]) := by decide +kernel
theorem bf267_495 : am_fetch (am_mth 267) 495 = some (.iadd, 1, [], [5, 6, 7]) := by decide +kernel
theorem bf267_496 : am_fetch (am_mth 267) 496 = some (.iaload, 1, [], [5, 6, 7]) := by decide +kernel
theorem bf267_497 : am_fetch (am_mth 267) 497 = some (.ifCond .eq 7, 3, [], [5, 6, 7]) := by decide +kernel
theorem bf267_500 : am_fetch (am_mth 267) 500 = some (.iconst 1, 1, [], [5, 6, 7]) := by decide +kernel
theorem bf267_501 : am_fetch (am_mth 267) 501 = some (.goto 4, 3, [], [5, 6, 7]) := by decide +kernel
theorem bf267_504 : am_fetch (am_mth 267) 504 = some (.iconst 0, 1, [], [5, 6, 7]) := by decide +kernel
theorem bf267_505 : am_fetch (am_mth 267) 505 = some (.aload_n 0, 1, [], [5, 6, 7]) := by decide +kernel
theorem bf267_506 : am_fetch (am_mth 267) 506 = some (.iload 4, 2, [], [5, 6, 7]) := by decide +kernel
theorem bf267_508 : am_fetch (am_mth 267) 508 = some (.iconst 3, 1, [], [5, 6, 7]) := by decide +kernel
theorem bf267_509 : am_fetch (am_mth 267) 509 = some (.iadd, 1, [], [5, 6, 7]) := by decide +kernel
theorem bf267_510 : am_fetch (am_mth 267) 510 = some (.iaload, 1, [], [5, 6, 7]) := by decide +kernel
theorem bf267_511 : am_fetch (am_mth 267) 511 = some (.ifCond .eq 7, 3, [], [5, 6, 7]) := by decide +kernel
theorem bf267_514 : am_fetch (am_mth 267) 514 = some (.iconst 1, 1, [], [5, 6, 7]) := by decide +kernel
theorem bf267_515 : am_fetch (am_mth 267) 515 = some (.goto 4, 3, [], [5, 6, 7]) := by decide +kernel
theorem bf267_518 : am_fetch (am_mth 267) 518 = some (.iconst 0, 1, [], [5, 6, 7]) := by decide +kernel
theorem bf267_519 : am_fetch (am_mth 267) 519 = some (.aload_n 3, 1, [], [5, 6, 7]) := by decide +kernel
theorem bf267_520 : am_fetch (am_mth 267) 520 = some (.invokestatic 146, 3, [0, 254, 5, 716, 717, 45], [5, 6, 7]) := by decide +kernel
theorem bf267_523 : am_fetch (am_mth 267) 523 = some (.istore 5, 2, [], [5, 6, 7]) := by decide +kernel
theorem bf267_525 : am_fetch (am_mth 267) 525 = some (.aload_n 2, 1, [], [5, 6, 7]) := by decide +kernel
theorem bf267_526 : am_fetch (am_mth 267) 526 = some (.aload_n 0, 1, [], [5, 6, 7]) := by decide +kernel
theorem bf267_527 : am_fetch (am_mth 267) 527 = some (.iload 4, 2, [], [5, 6, 7]) := by decide +kernel
theorem bf267_529 : am_fetch (am_mth 267) 529 = some (.iconst 1, 1, [], [5, 6, 7]) := by decide +kernel
theorem bf267_530 : am_fetch (am_mth 267) 530 = some (.iadd, 1, [], [5, 6, 7]) := by decide +kernel
theorem bf267_531 : am_fetch (am_mth 267) 531 = some (.iaload, 1, [], [5, 6, 7]) := by decide +kernel
theorem bf267_532 : am_fetch (am_mth 267) 532 = some (.aload_n 0, 1, [], [5, 6, 7]) := by decide +kernel
theorem bf267_533 : am_fetch (am_mth 267) 533 = some (.iload 4, 2, [], [5, 6, 7]) := by decide +kernel
theorem bf267_535 : am_fetch (am_mth 267) 535 = some (.iconst 2, 1, [], [5, 6, 7]) := by decide +kernel
theorem bf267_536 : am_fetch (am_mth 267) 536 = some (.iadd, 1, [], [5, 6, 7]) := by decide +kernel
theorem bf267_537 : am_fetch (am_mth 267) 537 = some (.iaload, 1, [], [5, 6, 7]) := by decide +kernel
theorem bf267_538 : am_fetch (am_mth 267) 538 = some (.ifCond .eq 7, 3, [], [5, 6, 7]) := by decide +kernel
theorem bf267_541 : am_fetch (am_mth 267) 541 = some (.iconst 1, 1, [], [5, 6, 7]) := by decide +kernel
theorem bf267_542 : am_fetch (am_mth 267) 542 = some (.goto 4, 3, [], [5, 6, 7]) := by decide +kernel
theorem bf267_545 : am_fetch (am_mth 267) 545 = some (.iconst 0, 1, [], [5, 6, 7]) := by decide +kernel
theorem bf267_546 : am_fetch (am_mth 267) 546 = some (.aload_n 0, 1, [], [5, 6, 7]) := by decide +kernel
theorem bf267_547 : am_fetch (am_mth 267) 547 = some (.iload 4, 2, [], [5, 6, 7]) := by decide +kernel
theorem bf267_549 : am_fetch (am_mth 267) 549 = some (.iconst 3, 1, [], [5, 6, 7]) := by decide +kernel
theorem bf267_550 : am_fetch (am_mth 267) 550 = some (.iadd, 1, [], [5, 6, 7]) := by decide +kernel
theorem bf267_551 : am_fetch (am_mth 267) 551 = some (.iaload, 1, [], [5, 6, 7]) := by decide +kernel
theorem bf267_552 : am_fetch (am_mth 267) 552 = some (.ifCond .eq 7, 3, [], [5, 6, 7]) := by decide +kernel
theorem bf267_555 : am_fetch (am_mth 267) 555 = some (.iconst 1, 1, [], [5, 6, 7]) := by decide +kernel
theorem bf267_556 : am_fetch (am_mth 267) 556 = some (.goto 4, 3, [], [5, 6, 7]) := by decide +kernel
theorem bf267_559 : am_fetch (am_mth 267) 559 = some (.iconst 0, 1, [], [5, 6, 7]) := by decide +kernel
theorem bf267_560 : am_fetch (am_mth 267) 560 = some (.invokevirtual 148, 3, [0, 261, 3, 11, 1464, 1465, 1466, 48], [5, 6, 7]) := by decide +kernel
theorem bf267_563 : am_fetch (am_mth 267) 563 = some (.istore 6, 2, [], [5, 6, 7]) := by decide +kernel
theorem bf267_565 : am_fetch (am_mth 267) 565 = some (.goto 867, 3, [], [5, 6, 7]) := by decide +kernel
theorem bf267_568 : am_fetch (am_mth 267) 568 = some (.aload_n 1, 1, [], [5, 6, 7]) := by decide +kernel
theorem bf267_569 : am_fetch (am_mth 267) 569 = some (.aload_n 0, 1, [], [5, 6, 7]) := by decide +kernel
theorem bf267_570 : am_fetch (am_mth 267) 570 = some (.iload 4, 2, [], [5, 6, 7]) := by decide +kernel
theorem bf267_572 : am_fetch (am_mth 267) 572 = some (.iconst 1, 1, [], [5, 6, 7]) := by decide +kernel
theorem bf267_573 : am_fetch (am_mth 267) 573 = some (.iadd, 1, [], [5, 6, 7]) := by decide +kernel
theorem bf267_574 : am_fetch (am_mth 267) 574 = some (.iaload, 1, [], [5, 6, 7]) := by decide +kernel
theorem bf267_575 : am_fetch (am_mth 267) 575 = some (.aload_n 0, 1, [], [5, 6, 7]) := by decide +kernel
theorem bf267_576 : am_fetch (am_mth 267) 576 = some (.iload 4, 2, [], [5, 6, 7]) := by decide +kernel
theorem bf267_578 : am_fetch (am_mth 267) 578 = some (.iconst 2, 1, [], [5, 6, 7]) := by decide +kernel
theorem bf267_579 : am_fetch (am_mth 267) 579 = some (.iadd, 1, [], [5, 6, 7]) := by decide +kernel
theorem bf267_580 : am_fetch (am_mth 267) 580 = some (.iaload, 1, [], [5, 6, 7]) := by decide +kernel
theorem bf267_581 : am_fetch (am_mth 267) 581 = some (.ifCond .eq 7, 3, [], [5, 6, 7]) := by decide +kernel
theorem bf267_584 : am_fetch (am_mth 267) 584 = some (.iconst 1, 1, [], [5, 6, 7]) := by decide +kernel
theorem bf267_585 : am_fetch (am_mth 267) 585 = some (.goto 4, 3, [], [5, 6, 7]) := by decide +kernel
theorem bf267_588 : am_fetch (am_mth 267) 588 = some (.iconst 0, 1, [], [5, 6, 7]) := by decide +kernel
theorem bf267_589 : am_fetch (am_mth 267) 589 = some (.aload_n 3, 1, [], [5, 6, 7]) := by decide +kernel
theorem bf267_590 : am_fetch (am_mth 267) 590 = some (.invokestatic 149, 3, [0, 255, 4, 736, 737, 45], [5, 6, 7]) := by decide +kernel
theorem bf267_593 : am_fetch (am_mth 267) 593 = some (.istore 5, 2, [], [5, 6, 7]) := by decide +kernel
theorem bf267_595 : am_fetch (am_mth 267) 595 = some (.aload_n 2, 1, [], [5, 6, 7]) := by decide +kernel
theorem bf267_596 : am_fetch (am_mth 267) 596 = some (.aload_n 0, 1, [], [5, 6, 7]) := by decide +kernel
theorem bf267_597 : am_fetch (am_mth 267) 597 = some (.iload 4, 2, [], [5, 6, 7]) := by decide +kernel
theorem bf267_599 : am_fetch (am_mth 267) 599 = some (.iconst 1, 1, [], [5, 6, 7]) := by decide +kernel
theorem bf267_600 : am_fetch (am_mth 267) 600 = some (.iadd, 1, [], [5, 6, 7]) := by decide +kernel
theorem bf267_601 : am_fetch (am_mth 267) 601 = some (.iaload, 1, [], [5, 6, 7]) := by decide +kernel
theorem bf267_602 : am_fetch (am_mth 267) 602 = some (.aload_n 0, 1, [], [5, 6, 7]) := by decide +kernel
theorem bf267_603 : am_fetch (am_mth 267) 603 = some (.iload 4, 2, [], [5, 6, 7]) := by decide +kernel
theorem bf267_605 : am_fetch (am_mth 267) 605 = some (.iconst 2, 1, [], [5, 6, 7]) := by decide +kernel
theorem bf267_606 : am_fetch (am_mth 267) 606 = some (.iadd, 1, [], [5, 6, 7]) := by decide +kernel
theorem bf267_607 : am_fetch (am_mth 267) 607 = some (.iaload, 1, [], [5, 6, 7]) := by decide +kernel
theorem bf267_608 : am_fetch (am_mth 267) 608 = some (.ifCond .eq 7, 3, [], [5, 6, 7]) := by decide +kernel
theorem bf267_611 : am_fetch (am_mth 267) 611 = some (.iconst 1, 1, [], [5, 6, 7]) := by decide +kernel
theorem bf267_612 : am_fetch (am_mth 267) 612 = some (.goto 4, 3, [], [5, 6, 7]) := by decide +kernel
theorem bf267_615 : am_fetch (am_mth 267) 615 = some (.iconst 0, 1, [], [5, 6, 7]) := by decide +kernel
theorem bf267_616 : am_fetch (am_mth 267) 616 = some (.invokevirtual 151, 3, [0, 262, 2, 11, 1471, 1472, 1473, 48], [5, 6, 7]) := by decide +kernel
theorem bf267_619 : am_fetch (am_mth 267) 619 = some (.istore 6, 2, [], [5, 6, 7]) := by decide +kernel
theorem bf267_621 : am_fetch (am_mth 267) 621 = some (.goto 811, 3, [], [5, 6, 7]) := by decide +kernel
theorem bf267_624 : am_fetch (am_mth 267) 624 = some (.aload_n 1, 1, [], [5, 6, 7]) := by decide +kernel
theorem bf267_625 : am_fetch (am_mth 267) 625 = some (.aload_n 0, 1, [], [5, 6, 7]) := by decide +kernel
theorem bf267_626 : am_fetch (am_mth 267) 626 = some (.iload 4, 2, [], [5, 6, 7]) := by decide +kernel
theorem bf267_628 : am_fetch (am_mth 267) 628 = some (.iconst 1, 1, [], [5, 6, 7]) := by decide +kernel
theorem bf267_629 : am_fetch (am_mth 267) 629 = some (.iadd, 1, [], [5, 6, 7]) := by decide +kernel
theorem bf267_630 : am_fetch (am_mth 267) 630 = some (.iaload, 1, [], [5, 6, 7]) := by decide +kernel
theorem bf267_631 : am_fetch (am_mth 267) 631 = some (.aload_n 0, 1, [], [5, 6, 7]) := by decide +kernel
theorem bf267_632 : am_fetch (am_mth 267) 632 = some (.iload 4, 2, [], [5, 6, 7]) := by decide +kernel
theorem bf267_634 : am_fetch (am_mth 267) 634 = some (.iconst 2, 1, [], [5, 6, 7]) := by decide +kernel
theorem bf267_635 : am_fetch (am_mth 267) 635 = some (.iadd, 1, [], [5, 6, 7]) := by decide +kernel
theorem bf267_636 : am_fetch (am_mth 267) 636 = some (.iaload, 1, [], [5, 6, 7]) := by decide +kernel
theorem bf267_637 : am_fetch (am_mth 267) 637 = some (.ifCond .eq 7, 3, [], [5, 6, 7]) := by decide +kernel
theorem bf267_640 : am_fetch (am_mth 267) 640 = some (.iconst 1, 1, [], [5, 6, 7]) := by decide +kernel
theorem bf267_641 : am_fetch (am_mth 267) 641 = some (.goto 4, 3, [], [5, 6, 7]) := by decide +kernel
theorem bf267_644 : am_fetch (am_mth 267) 644 = some (.iconst 0, 1, [], [5, 6, 7]) := by decide +kernel
theorem bf267_645 : am_fetch (am_mth 267) 645 = some (.aload_n 3, 1, [], [5, 6, 7]) := by decide +kernel
theorem bf267_646 : am_fetch (am_mth 267) 646 = some (.invokestatic 152, 3, [0, 256, 4, 757, 758, 45], [5, 6, 7]) := by decide +kernel
theorem bf267_649 : am_fetch (am_mth 267) 649 = some (.istore 5, 2, [], [5, 6, 7]) := by decide +kernel
theorem bf267_651 : am_fetch (am_mth 267) 651 = some (.aload_n 2, 1, [], [5, 6, 7]) := by decide +kernel
theorem bf267_652 : am_fetch (am_mth 267) 652 = some (.aload_n 0, 1, [], [5, 6, 7]) := by decide +kernel
theorem bf267_653 : am_fetch (am_mth 267) 653 = some (.iload 4, 2, [], [5, 6, 7]) := by decide +kernel
theorem bf267_655 : am_fetch (am_mth 267) 655 = some (.iconst 1, 1, [], [5, 6, 7]) := by decide +kernel
theorem bf267_656 : am_fetch (am_mth 267) 656 = some (.iadd, 1, [], [5, 6, 7]) := by decide +kernel
theorem bf267_657 : am_fetch (am_mth 267) 657 = some (.iaload, 1, [], [5, 6, 7]) := by decide +kernel
theorem bf267_658 : am_fetch (am_mth 267) 658 = some (.aload_n 0, 1, [], [5, 6, 7]) := by decide +kernel
theorem bf267_659 : am_fetch (am_mth 267) 659 = some (.iload 4, 2, [], [5, 6, 7]) := by decide +kernel
theorem bf267_661 : am_fetch (am_mth 267) 661 = some (.iconst 2, 1, [], [5, 6, 7]) := by decide +kernel
theorem bf267_662 : am_fetch (am_mth 267) 662 = some (.iadd, 1, [], [5, 6, 7]) := by decide +kernel
theorem bf267_663 : am_fetch (am_mth 267) 663 = some (.iaload, 1, [], [5, 6, 7]) := by decide +kernel
theorem bf267_664 : am_fetch (am_mth 267) 664 = some (.ifCond .eq 7, 3, [], [5, 6, 7]) := by decide +kernel
theorem bf267_667 : am_fetch (am_mth 267) 667 = some (.iconst 1, 1, [], [5, 6, 7]) := by decide +kernel
theorem bf267_668 : am_fetch (am_mth 267) 668 = some (.goto 4, 3, [], [5, 6, 7]) := by decide +kernel
theorem bf267_671 : am_fetch (am_mth 267) 671 = some (.iconst 0, 1, [], [5, 6, 7]) := by decide +kernel
theorem bf267_672 : am_fetch (am_mth 267) 672 = some (.invokevirtual 154, 3, [0, 263, 2, 11, 1482, 1483, 1484, 48], [5, 6, 7]) := by decide +kernel
theorem bf267_675 : am_fetch (am_mth 267) 675 = some (.istore 6, 2, [], [5, 6, 7]) := by decide +kernel
theorem bf267_677 : am_fetch (am_mth 267) 677 = some (.goto 755, 3, [], [5, 6, 7]) := by decide +kernel
theorem bf267_680 : am_fetch (am_mth 267) 680 = some (.aload_n 1, 1, [], [5, 6, 7]) := by decide +kernel
theorem bf267_681 : am_fetch (am_mth 267) 681 = some (.aload_n 0, 1, [], [5, 6, 7]) := by decide +kernel
theorem bf267_682 : am_fetch (am_mth 267) 682 = some (.iload 4, 2, [], [5, 6, 7]) := by decide +kernel
theorem bf267_684 : am_fetch (am_mth 267) 684 = some (.iconst 1, 1, [], [5, 6, 7]) := by decide +kernel
theorem bf267_685 : am_fetch (am_mth 267) 685 = some (.iadd, 1, [], [5, 6, 7]) := by decide +kernel
theorem bf267_686 : am_fetch (am_mth 267) 686 = some (.iaload, 1, [], [5, 6, 7]) := by decide +kernel
theorem bf267_687 : am_fetch (am_mth 267) 687 = some (.aload_n 0, 1, [], [5, 6, 7]) := by decide +kernel
theorem bf267_688 : am_fetch (am_mth 267) 688 = some (.iload 4, 2, [], [5, 6, 7]) := by decide +kernel
theorem bf267_690 : am_fetch (am_mth 267) 690 = some (.iconst 2, 1, [], [5, 6, 7]) := by decide +kernel
theorem bf267_691 : am_fetch (am_mth 267) 691 = some (.iadd, 1, [], [5, 6, 7]) := by decide +kernel
theorem bf267_692 : am_fetch (am_mth 267) 692 = some (.iaload, 1, [], [5, 6, 7]) := by decide +kernel
theorem bf267_693 : am_fetch (am_mth 267) 693 = some (.aload_n 3, 1, [], [5, 6, 7]) := by decide +kernel
theorem bf267_694 : am_fetch (am_mth 267) 694 = some (.invokestatic 155, 3, [0, 187, 4, 770, 771, 45], [5, 6, 7]) := by decide +kernel
theorem bf267_697 : am_fetch (am_mth 267) 697 = some (.istore 5, 2, [], [5, 6, 7]) := by decide +kernel
theorem bf267_699 : am_fetch (am_mth 267) 699 = some (.aload_n 2, 1, [], [5, 6, 7]) := by decide +kernel
theorem bf267_700 : am_fetch (am_mth 267) 700 = some (.aload_n 0, 1, [], [5, 6, 7]) := by decide +kernel
theorem bf267_701 : am_fetch (am_mth 267) 701 = some (.iload 4, 2, [], [5, 6, 7]) := by decide +kernel
theorem bf267_703 : am_fetch (am_mth 267) 703 = some (.iconst 1, 1, [], [5, 6, 7]) := by decide +kernel
theorem bf267_704 : am_fetch (am_mth 267) 704 = some (.iadd, 1, [], [5, 6, 7]) := by decide +kernel
theorem bf267_705 : am_fetch (am_mth 267) 705 = some (.iaload, 1, [], [5, 6, 7]) := by decide +kernel
theorem bf267_706 : am_fetch (am_mth 267) 706 = some (.aload_n 0, 1, [], [5, 6, 7]) := by decide +kernel
theorem bf267_707 : am_fetch (am_mth 267) 707 = some (.iload 4, 2, [], [5, 6, 7]) := by decide +kernel
theorem bf267_709 : am_fetch (am_mth 267) 709 = some (.iconst 2, 1, [], [5, 6, 7]) := by decide +kernel
theorem bf267_710 : am_fetch (am_mth 267) 710 = some (.iadd, 1, [], [5, 6, 7]) := by decide +kernel
theorem bf267_711 : am_fetch (am_mth 267) 711 = some (.iaload, 1, [], [5, 6, 7]) := by decide +kernel
theorem bf267_712 : am_fetch (am_mth 267) 712 = some (.invokevirtual 158, 3, [0, 178, 2, 11, 1533, 1534, 1535, 48], [5, 6, 7]) := by decide +kernel
theorem bf267_715 : am_fetch (am_mth 267) 715 = some (.istore 6, 2, [], [5, 6, 7]) := by decide +kernel
theorem bf267_717 : am_fetch (am_mth 267) 717 = some (.goto 715, 3, [], [5, 6, 7]) := by decide +kernel
theorem bf267_720 : am_fetch (am_mth 267) 720 = some (.aload_n 1, 1, [], [5, 6, 7]) := by decide +kernel
theorem bf267_721 : am_fetch (am_mth 267) 721 = some (.aload_n 0, 1, [], [5, 6, 7]) := by decide +kernel
theorem bf267_722 : am_fetch (am_mth 267) 722 = some (.iload 4, 2, [], [5, 6, 7]) := by decide +kernel
theorem bf267_724 : am_fetch (am_mth 267) 724 = some (.iconst 1, 1, [], [5, 6, 7]) := by decide +kernel
theorem bf267_725 : am_fetch (am_mth 267) 725 = some (.iadd, 1, [], [5, 6, 7]) := by decide +kernel
theorem bf267_726 : am_fetch (am_mth 267) 726 = some (.iaload, 1, [], [5, 6, 7]) := by decide +kernel
theorem bf267_727 : am_fetch (am_mth 267) 727 = some (.aload_n 3, 1, [], [5, 6, 7]) := by decide +kernel
theorem bf267_728 : am_fetch (am_mth 267) 728 = some (.invokestatic 159, 3, [0, 188, 3, 778, 779, 45], [5, 6, 7]) := by decide +kernel
theorem bf267_731 : am_fetch (am_mth 267) 731 = some (.istore 5, 2, [], [5, 6, 7]) := by decide +kernel
theorem bf267_733 : am_fetch (am_mth 267) 733 = some (.aload_n 2, 1, [], [5, 6, 7]) := by decide +kernel
theorem bf267_734 : am_fetch (am_mth 267) 734 = some (.aload_n 0, 1, [], [5, 6, 7]) := by decide +kernel
theorem bf267_735 : am_fetch (am_mth 267) 735 = some (.iload 4, 2, [], [5, 6, 7]) := by decide +kernel
theorem bf267_737 : am_fetch (am_mth 267) 737 = some (.iconst 1, 1, [], [5, 6, 7]) := by decide +kernel
theorem bf267_738 : am_fetch (am_mth 267) 738 = some (.iadd, 1, [], [5, 6, 7]) := by decide +kernel
theorem bf267_739 : am_fetch (am_mth 267) 739 = some (.iaload, 1, [], [5, 6, 7]) := by decide +kernel
theorem bf267_740 : am_fetch (am_mth 267) 740 = some (.invokevirtual 161, 3, [0, 179, 1, 11, 1537, 1538, 1539, 48], [5, 6, 7]) := by decide +kernel
theorem bf267_743 : am_fetch (am_mth 267) 743 = some (.istore 6, 2, [], [5, 6, 7]) := by decide +kernel
theorem bf267_745 : am_fetch (am_mth 267) 745 = some (.goto 687, 3, [], [5, 6, 7]) := by decide +kernel
theorem bf267_748 : am_fetch (am_mth 267) 748 = some (.aload_n 1, 1, [], [5, 6, 7]) := by decide +kernel
theorem bf267_749 : am_fetch (am_mth 267) 749 = some (.aload_n 0, 1, [], [5, 6, 7]) := by decide +kernel
theorem bf267_750 : am_fetch (am_mth 267) 750 = some (.iload 4, 2, [], [5, 6, 7]) := by decide +kernel
theorem bf267_752 : am_fetch (am_mth 267) 752 = some (.iconst 1, 1, [], [5, 6, 7]) := by decide +kernel
theorem bf267_753 : am_fetch (am_mth 267) 753 = some (.iadd, 1, [], [5, 6, 7]) := by decide +kernel
theorem bf267_754 : am_fetch (am_mth 267) 754 = some (.iaload, 1, [], [5, 6, 7]) := by decide +kernel
theorem bf267_755 : am_fetch (am_mth 267) 755 = some (.aload_n 0, 1, [], [5, 6, 7]) := by decide +kernel
theorem bf267_756 : am_fetch (am_mth 267) 756 = some (.iload 4, 2, [], [5, 6, 7]) := by decide +kernel
theorem bf267_758 : am_fetch (am_mth 267) 758 = some (.iconst 2, 1, [], [5, 6, 7]) := by decide +kernel
theorem bf267_759 : am_fetch (am_mth 267) 759 = some (.iadd, 1, [], [5, 6, 7]) := by decide +kernel
theorem bf267_760 : am_fetch (am_mth 267) 760 = some (.iaload, 1, [], [5, 6, 7]) := by decide +kernel
theorem bf267_761 : am_fetch (am_mth 267) 761 = some (.aload_n 3, 1, [], [5, 6, 7]) := by decide +kernel
theorem bf267_762 : am_fetch (am_mth 267) 762 = some (.invokestatic 162, 3, [0, 218, 4, 786, 787, 45], [5, 6, 7]) := by decide +kernel
theorem bf267_765 : am_fetch (am_mth 267) 765 = some (.istore 5, 2, [], [5, 6, 7]) := by decide +kernel
theorem bf267_767 : am_fetch (am_mth 267) 767 = some (.aload_n 2, 1, [], [5, 6, 7]) := by decide +kernel
theorem bf267_768 : am_fetch (am_mth 267) 768 = some (.aload_n 0, 1, [], [5, 6, 7]) := by decide +kernel
theorem bf267_769 : am_fetch (am_mth 267) 769 = some (.iload 4, 2, [], [5, 6, 7]) := by decide +kernel
theorem bf267_771 : am_fetch (am_mth 267) 771 = some (.iconst 1, 1, [], [5, 6, 7]) := by decide +kernel
theorem bf267_772 : am_fetch (am_mth 267) 772 = some (.iadd, 1, [], [5, 6, 7]) := by decide +kernel
theorem bf267_773 : am_fetch (am_mth 267) 773 = some (.iaload, 1, [], [5, 6, 7]) := by decide +kernel
theorem bf267_774 : am_fetch (am_mth 267) 774 = some (.aload_n 0, 1, [], [5, 6, 7]) := by decide +kernel
theorem bf267_775 : am_fetch (am_mth 267) 775 = some (.iload 4, 2, [], [5, 6, 7]) := by decide +kernel
theorem bf267_777 : am_fetch (am_mth 267) 777 = some (.iconst 2, 1, [], [5, 6, 7]) := by decide +kernel
theorem bf267_778 : am_fetch (am_mth 267) 778 = some (.iadd, 1, [], [5, 6, 7]) := by decide +kernel
theorem bf267_779 : am_fetch (am_mth 267) 779 = some (.iaload, 1, [], [5, 6, 7]) := by decide +kernel
theorem bf267_780 : am_fetch (am_mth 267) 780 = some (.invokevirtual 164, 3, [0, 180, 2, 11, 1541, 1542, 1543, 48], [5, 6, 7]) := by decide +kernel
theorem bf267_783 : am_fetch (am_mth 267) 783 = some (.istore 6, 2, [], [5, 6, 7]) := by decide +kernel
theorem bf267_785 : am_fetch (am_mth 267) 785 = some (.goto 647, 3, [], [5, 6, 7]) := by decide +kernel
theorem bf267_788 : am_fetch (am_mth 267) 788 = some (.aload_n 1, 1, [], [5, 6, 7]) := by decide +kernel
theorem bf267_789 : am_fetch (am_mth 267) 789 = some (.aload_n 0, 1, [], [5, 6, 7]) := by decide +kernel
theorem bf267_790 : am_fetch (am_mth 267) 790 = some (.iload 4, 2, [], [5, 6, 7]) := by decide +kernel
theorem bf267_792 : am_fetch (am_mth 267) 792 = some (.iconst 1, 1, [], [5, 6, 7]) := by decide +kernel
theorem bf267_793 : am_fetch (am_mth 267) 793 = some (.iadd, 1, [], [5, 6, 7]) := by decide +kernel
theorem bf267_794 : am_fetch (am_mth 267) 794 = some (.iaload, 1, [], [5, 6, 7]) := by decide +kernel
theorem bf267_795 : am_fetch (am_mth 267) 795 = some (.aload_n 3, 1, [], [5, 6, 7]) := by decide +kernel
theorem bf267_796 : am_fetch (am_mth 267) 796 = some (.invokestatic 165, 3, [0, 189, 3, 807, 808, 45], [5, 6, 7]) := by decide +kernel
theorem bf267_799 : am_fetch (am_mth 267) 799 = some (.istore 5, 2, [], [5, 6, 7]) := by decide +kernel
theorem bf267_801 : am_fetch (am_mth 267) 801 = some (.aload_n 2, 1, [], [5, 6, 7]) := by decide +kernel
theorem bf267_802 : am_fetch (am_mth 267) 802 = some (.aload_n 0, 1, [], [5, 6, 7]) := by decide +kernel
theorem bf267_803 : am_fetch (am_mth 267) 803 = some (.iload 4, 2, [], [5, 6, 7]) := by decide +kernel
theorem bf267_805 : am_fetch (am_mth 267) 805 = some (.iconst 1, 1, [], [5, 6, 7]) := by decide +kernel
theorem bf267_806 : am_fetch (am_mth 267) 806 = some (.iadd, 1, [], [5, 6, 7]) := by decide +kernel
theorem bf267_807 : am_fetch (am_mth 267) 807 = some (.iaload, 1, [], [5, 6, 7]) := by decide +kernel
theorem bf267_808 : am_fetch (am_mth 267) 808 = some (.invokevirtual 167, 3, [0, 145, 1, 11, 1545, 1546, 1547, 48], [5, 6, 7]) := by decide +kernel
theorem bf267_811 : am_fetch (am_mth 267) 811 = some (.istore 6, 2, [], [5, 6, 7]) := by decide +kernel
theorem bf267_813 : am_fetch (am_mth 267) 813 = some (.goto 619, 3, [], [5, 6, 7]) := by decide +kernel
theorem bf267_816 : am_fetch (am_mth 267) 816 = some (.aload_n 1, 1, [], [5, 6, 7]) := by decide +kernel
theorem bf267_817 : am_fetch (am_mth 267) 817 = some (.invokevirtual 168, 3, [0, 24, 0, 8, 139, 140, 141, 46], [5, 6, 7]) := by decide +kernel
theorem bf267_820 : am_fetch (am_mth 267) 820 = some (.pop, 1, [], [5, 6, 7]) := by decide +kernel
theorem bf267_821 : am_fetch (am_mth 267) 821 = some (.aload_n 2, 1, [], [5, 6, 7]) := by decide +kernel
theorem bf267_822 : am_fetch (am_mth 267) 822 = some (.invokevirtual 172, 3, [0, 47, 0, 11, 1549, 1550, 1551, 48], [5, 6, 7]) := by decide +kernel
theorem bf267_825 : am_fetch (am_mth 267) 825 = some (.pop, 1, [], [5, 6, 7]) := by decide +kernel
theorem bf267_826 : am_fetch (am_mth 267) 826 = some (.goto 606, 3, [], [5, 6, 7]) := by decide +kernel
theorem bf267_829 : am_fetch (am_mth 267) 829 = some (.aload_n 1, 1, [], [5, 6, 7]) := by decide +kernel
theorem bf267_830 : am_fetch (am_mth 267) 830 = some (.aload_n 0, 1, [], [5, 6, 7]) := by decide +kernel
theorem bf267_831 : am_fetch (am_mth 267) 831 = some (.iload 4, 2, [], [5, 6, 7]) := by decide +kernel
theorem bf267_833 : am_fetch (am_mth 267) 833 = some (.iconst 1, 1, [], [5, 6, 7]) := by decide +kernel
theorem bf267_834 : am_fetch (am_mth 267) 834 = some (.iadd, 1, [], [5, 6, 7]) := by decide +kernel
theorem bf267_835 : am_fetch (am_mth 267) 835 = some (.iaload, 1, [], [5, 6, 7]) := by decide +kernel
theorem bf267_836 : am_fetch (am_mth 267) 836 = some (.aload_n 0, 1, [], [5, 6, 7]) := by decide +kernel
theorem bf267_837 : am_fetch (am_mth 267) 837 = some (.iload 4, 2, [], [5, 6, 7]) := by decide +kernel
theorem bf267_839 : am_fetch (am_mth 267) 839 = some (.iconst 2, 1, [], [5, 6, 7]) := by decide +kernel
theorem bf267_840 : am_fetch (am_mth 267) 840 = some (.iadd, 1, [], [5, 6, 7]) := by decide +kernel
theorem bf267_841 : am_fetch (am_mth 267) 841 = some (.iaload, 1, [], [5, 6, 7]) := by decide +kernel
theorem bf267_842 : am_fetch (am_mth 267) 842 = some (.aload_n 0, 1, [], [5, 6, 7]) := by decide +kernel
theorem bf267_843 : am_fetch (am_mth 267) 843 = some (.iload 4, 2, [], [5, 6, 7]) := by decide +kernel
theorem bf267_845 : am_fetch (am_mth 267) 845 = some (.iconst 3, 1, [], [5, 6, 7]) := by decide +kernel
theorem bf267_846 : am_fetch (am_mth 267) 846 = some (.iadd, 1, [], [5, 6, 7]) := by decide +kernel
theorem bf267_847 : am_fetch (am_mth 267) 847 = some (.iaload, 1, [], [5, 6, 7]) := by decide +kernel
theorem bf267_848 : am_fetch (am_mth 267) 848 = some (.aload_n 3, 1, [], [5, 6, 7]) := by decide +kernel
theorem bf267_849 : am_fetch (am_mth 267) 849 = some (.invokestatic 173, 3, [0, 219, 5, 815, 816, 45], [5, 6, 7]) := by decide +kernel
theorem bf267_852 : am_fetch (am_mth 267) 852 = some (.istore 5, 2, [], [5, 6, 7]) := by decide +kernel
theorem bf267_854 : am_fetch (am_mth 267) 854 = some (.aload_n 2, 1, [], [5, 6, 7]) := by decide +kernel
theorem bf267_855 : am_fetch (am_mth 267) 855 = some (.aload_n 0, 1, [], [5, 6, 7]) := by decide +kernel
theorem bf267_856 : am_fetch (am_mth 267) 856 = some (.iload 4, 2, [], [5, 6, 7]) := by decide +kernel
theorem bf267_858 : am_fetch (am_mth 267) 858 = some (.iconst 1, 1, [], [5, 6, 7]) := by decide +kernel
theorem bf267_859 : am_fetch (am_mth 267) 859 = some (.iadd, 1, [], [5, 6, 7]) := by decide +kernel
theorem bf267_860 : am_fetch (am_mth 267) 860 = some (.iaload, 1, [], [5, 6, 7]) := by decide +kernel
theorem bf267_861 : am_fetch (am_mth 267) 861 = some (.aload_n 0, 1, [], [5, 6, 7]) := by decide +kernel
theorem bf267_862 : am_fetch (am_mth 267) 862 = some (.iload 4, 2, [], [5, 6, 7]) := by decide +kernel
theorem bf267_864 : am_fetch (am_mth 267) 864 = some (.iconst 2, 1, [], [5, 6, 7]) := by decide +kernel
theorem bf267_865 : am_fetch (am_mth 267) 865 = some (.iadd, 1, [], [5, 6, 7]) := by decide +kernel
theorem bf267_866 : am_fetch (am_mth 267) 866 = some (.iaload, 1, [], [5, 6, 7]) := by decide +kernel
theorem bf267_867 : am_fetch (am_mth 267) 867 = some (.aload_n 0, 1, [], [5, 6, 7]) := by decide +kernel
theorem bf267_868 : am_fetch (am_mth 267) 868 = some (.iload 4, 2, [], [5, 6, 7]) := by decide +kernel
theorem bf267_870 : am_fetch (am_mth 267) 870 = some (.iconst 3, 1, [], [5, 6, 7]) := by decide +kernel
theorem bf267_871 : am_fetch (am_mth 267) 871 = some (.iadd, 1, [], [5, 6, 7]) := by decide +kernel
theorem bf267_872 : am_fetch (am_mth 267) 872 = some (.iaload, 1, [], [5, 6, 7]) := by decide +kernel
theorem bf267_873 : am_fetch (am_mth 267) 873 = some (.invokevirtual 176, 3, [0, 212, 3, 11, 1553, 1554, 1555, 48], [5, 6, 7]) := by decide +kernel
theorem bf267_876 : am_fetch (am_mth 267) 876 = some (.istore 6, 2, [], [5, 6, 7]) := by decide +kernel
theorem bf267_878 : am_fetch (am_mth 267) 878 = some (.goto 554, 3, [], [5, 6, 7]) := by decide +kernel
theorem bf267_881 : am_fetch (am_mth 267) 881 = some (.aload_n 1, 1, [], [5, 6, 7]) := by decide +kernel
theorem bf267_882 : am_fetch (am_mth 267) 882 = some (.aload_n 0, 1, [], [5, 6, 7]) := by decide +kernel
theorem bf267_883 : am_fetch (am_mth 267) 883 = some (.iload 4, 2, [], [5, 6, 7]) := by decide +kernel
theorem bf267_885 : am_fetch (am_mth 267) 885 = some (.iconst 1, 1, [], [5, 6, 7]) := by decide +kernel
theorem bf267_886 : am_fetch (am_mth 267) 886 = some (.iadd, 1, [], [5, 6, 7]) := by decide +kernel
theorem bf267_887 : am_fetch (am_mth 267) 887 = some (.iaload, 1, [], [5, 6, 7]) := by decide +kernel
theorem bf267_888 : am_fetch (am_mth 267) 888 = some (.aload_n 0, 1, [], [5, 6, 7]) := by decide +kernel
theorem bf267_889 : am_fetch (am_mth 267) 889 = some (.iload 4, 2, [], [5, 6, 7]) := by decide +kernel
theorem bf267_891 : am_fetch (am_mth 267) 891 = some (.iconst 2, 1, [], [5, 6, 7]) := by decide +kernel
theorem bf267_892 : am_fetch (am_mth 267) 892 = some (.iadd, 1, [], [5, 6, 7]) := by decide +kernel
theorem bf267_893 : am_fetch (am_mth 267) 893 = some (.iaload, 1, [], [5, 6, 7]) := by decide +kernel
theorem bf267_894 : am_fetch (am_mth 267) 894 = some (.aload_n 3, 1, [], [5, 6, 7]) := by decide +kernel
theorem bf267_895 : am_fetch (am_mth 267) 895 = some (.invokestatic 177, 3, [0, 234, 4, 819, 820, 45], [5, 6, 7]) := by decide +kernel
theorem bf267_898 : am_fetch (am_mth 267) 898 = some (.istore 5, 2, [], [5, 6, 7]) := by decide +kernel
theorem bf267_900 : am_fetch (am_mth 267) 900 = some (.aload_n 2, 1, [], [5, 6, 7]) := by decide +kernel
theorem bf267_901 : am_fetch (am_mth 267) 901 = some (.aload_n 0, 1, [], [5, 6, 7]) := by decide +kernel
theorem bf267_902 : am_fetch (am_mth 267) 902 = some (.iload 4, 2, [], [5, 6, 7]) := by decide +kernel
theorem bf267_904 : am_fetch (am_mth 267) 904 = some (.iconst 1, 1, [], [5, 6, 7]) := by decide +kernel
theorem bf267_905 : am_fetch (am_mth 267) 905 = some (.iadd, 1, [], [5, 6, 7]) := by decide +kernel
theorem bf267_906 : am_fetch (am_mth 267) 906 = some (.iaload, 1, [], [5, 6, 7]) := by decide +kernel
theorem bf267_907 : am_fetch (am_mth 267) 907 = some (.aload_n 0, 1, [], [5, 6, 7]) := by decide +kernel
theorem bf267_908 : am_fetch (am_mth 267) 908 = some (.iload 4, 2, [], [5, 6, 7]) := by decide +kernel
theorem bf267_910 : am_fetch (am_mth 267) 910 = some (.iconst 2, 1, [], [5, 6, 7]) := by decide +kernel
theorem bf267_911 : am_fetch (am_mth 267) 911 = some (.iadd, 1, [], [5, 6, 7]) := by decide +kernel
theorem bf267_912 : am_fetch (am_mth 267) 912 = some (.iaload, 1, [], [5, 6, 7]) := by decide +kernel
theorem bf267_913 : am_fetch (am_mth 267) 913 = some (.invokevirtual 179, 3, [0, 182, 2, 11, 1561, 1562, 1563, 48], [5, 6, 7]) := by decide +kernel
theorem bf267_916 : am_fetch (am_mth 267) 916 = some (.istore 6, 2, [], [5, 6, 7]) := by decide +kernel
theorem bf267_918 : am_fetch (am_mth 267) 918 = some (.goto 514, 3, [], [5, 6, 7]) := by decide +kernel
theorem bf267_921 : am_fetch (am_mth 267) 921 = some (.aload_n 1, 1, [], [5, 6, 7]) := by decide +kernel
theorem bf267_922 : am_fetch (am_mth 267) 922 = some (.aload_n 0, 1, [], [5, 6, 7]) := by decide +kernel
theorem bf267_923 : am_fetch (am_mth 267) 923 = some (.iload 4, 2, [], [5, 6, 7]) := by decide +kernel
theorem bf267_925 : am_fetch (am_mth 267) 925 = some (.iconst 1, 1, [], [5, 6, 7]) := by decide +kernel
theorem bf267_926 : am_fetch (am_mth 267) 926 = some (.iadd, 1, [], [5, 6, 7]) := by decide +kernel
theorem bf267_927 : am_fetch (am_mth 267) 927 = some (.iaload, 1, [], [5, 6, 7]) := by decide +kernel
theorem bf267_928 : am_fetch (am_mth 267) 928 = some (.aload_n 3, 1, [], [5, 6, 7]) := by decide +kernel
theorem bf267_929 : am_fetch (am_mth 267) 929 = some (.invokestatic 180, 3, [0, 190, 3, 823, 824, 45], [5, 6, 7]) := by decide +kernel
theorem bf267_932 : am_fetch (am_mth 267) 932 = some (.istore 5, 2, [], [5, 6, 7]) := by decide +kernel
theorem bf267_934 : am_fetch (am_mth 267) 934 = some (.aload_n 2, 1, [], [5, 6, 7]) := by decide +kernel
theorem bf267_935 : am_fetch (am_mth 267) 935 = some (.aload_n 0, 1, [], [5, 6, 7]) := by decide +kernel
theorem bf267_936 : am_fetch (am_mth 267) 936 = some (.iload 4, 2, [], [5, 6, 7]) := by decide +kernel
theorem bf267_938 : am_fetch (am_mth 267) 938 = some (.iconst 1, 1, [], [5, 6, 7]) := by decide +kernel
theorem bf267_939 : am_fetch (am_mth 267) 939 = some (.iadd, 1, [], [5, 6, 7]) := by decide +kernel
theorem bf267_940 : am_fetch (am_mth 267) 940 = some (.iaload, 1, [], [5, 6, 7]) := by decide +kernel
theorem bf267_941 : am_fetch (am_mth 267) 941 = some (.invokevirtual 182, 3, [0, 227, 1, 11, 1569, 1570, 1571, 48], [5, 6, 7]) := by decide +kernel
theorem bf267_944 : am_fetch (am_mth 267) 944 = some (.istore 6, 2, [], [5, 6, 7]) := by decide +kernel
theorem bf267_946 : am_fetch (am_mth 267) 946 = some (.goto 486, 3, [], [5, 6, 7]) := by decide +kernel
theorem bf267_949 : am_fetch (am_mth 267) 949 = some (.aload_n 1, 1, [], [5, 6, 7]) := by decide +kernel
theorem bf267_950 : am_fetch (am_mth 267) 950 = some (.aload_n 0, 1, [], [5, 6, 7]) := by decide +kernel
theorem bf267_951 : am_fetch (am_mth 267) 951 = some (.iload 4, 2, [], [5, 6, 7]) := by decide +kernel
theorem bf267_953 : am_fetch (am_mth 267) 953 = some (.iconst 1, 1, [], [5, 6, 7]) := by decide +kernel
theorem bf267_954 : am_fetch (am_mth 267) 954 = some (.iadd, 1, [], [5, 6, 7]) := by decide +kernel
theorem bf267_955 : am_fetch (am_mth 267) 955 = some (.iaload, 1, [], [5, 6, 7]) := by decide +kernel
theorem bf267_956 : am_fetch (am_mth 267) 956 = some (.aload_n 3, 1, [], [5, 6, 7]) := by decide +kernel
theorem bf267_957 : am_fetch (am_mth 267) 957 = some (.invokestatic 183, 3, [0, 257, 3, 827, 828, 45], [5, 6, 7]) := by decide +kernel
theorem bf267_960 : am_fetch (am_mth 267) 960 = some (.istore 5, 2, [], [5, 6, 7]) := by decide +kernel
theorem bf267_962 : am_fetch (am_mth 267) 962 = some (.aload_n 2, 1, [], [5, 6, 7]) := by decide +kernel
theorem bf267_963 : am_fetch (am_mth 267) 963 = some (.aload_n 0, 1, [], [5, 6, 7]) := by decide +kernel
theorem bf267_964 : am_fetch (am_mth 267) 964 = some (.iload 4, 2, [], [5, 6, 7]) := by decide +kernel
theorem bf267_966 : am_fetch (am_mth 267) 966 = some (.iconst 1, 1, [], [5, 6, 7]) := by decide +kernel
theorem bf267_967 : am_fetch (am_mth 267) 967 = some (.iadd, 1, [], [5, 6, 7]) := by decide +kernel
theorem bf267_968 : am_fetch (am_mth 267) 968 = some (.iaload, 1, [], [5, 6, 7]) := by decide +kernel
theorem bf267_969 : am_fetch (am_mth 267) 969 = some (.invokevirtual 185, 3, [0, 246, 1, 11, 1577, 1578, 1579, 48], [5, 6, 7]) := by decide +kernel
theorem bf267_972 : am_fetch (am_mth 267) 972 = some (.astore 6, 2, [], [5, 6, 7]) := by decide +kernel
theorem bf267_974 : am_fetch (am_mth 267) 974 = some (.goto 458, 3, [], [5, 6, 7]) := by decide +kernel
theorem bf267_977 : am_fetch (am_mth 267) 977 = some (.aload_n 1, 1, [], [5, 6, 7]) := by decide +kernel
theorem bf267_978 : am_fetch (am_mth 267) 978 = some (.aload_n 0, 1, [], [5, 6, 7]) := by decide +kernel
theorem bf267_979 : am_fetch (am_mth 267) 979 = some (.iload 4, 2, [], [5, 6, 7]) := by decide +kernel
theorem bf267_981 : am_fetch (am_mth 267) 981 = some (.iconst 1, 1, [], [5, 6, 7]) := by decide +kernel
theorem bf267_982 : am_fetch (am_mth 267) 982 = some (.iadd, 1, [], [5, 6, 7]) := by decide +kernel
theorem bf267_983 : am_fetch (am_mth 267) 983 = some (.iaload, 1, [], [5, 6, 7]) := by decide +kernel
theorem bf267_984 : am_fetch (am_mth 267) 984 = some (.aload_n 0, 1, [], [5, 6, 7]) := by decide +kernel
theorem bf267_985 : am_fetch (am_mth 267) 985 = some (.iload 4, 2, [], [5, 6, 7]) := by decide +kernel
theorem bf267_987 : am_fetch (am_mth 267) 987 = some (.iconst 2, 1, [], [5, 6, 7]) := by decide +kernel
theorem bf267_988 : am_fetch (am_mth 267) 988 = some (.iadd, 1, [], [5, 6, 7]) := by decide +kernel
theorem bf267_989 : am_fetch (am_mth 267) 989 = some (.iaload, 1, [], [5, 6, 7]) := by decide +kernel
theorem bf267_990 : am_fetch (am_mth 267) 990 = some (.aload_n 0, 1, [], [5, 6, 7]) := by decide +kernel
theorem bf267_991 : am_fetch (am_mth 267) 991 = some (.iload 4, 2, [], [5, 6, 7]) := by decide +kernel
theorem bf267_993 : am_fetch (am_mth 267) 993 = some (.iconst 3, 1, [], [5, 6, 7]) := by decide +kernel
theorem bf267_994 : am_fetch (am_mth 267) 994 = some (.iadd, 1, [], [5, 6, 7]) := by decide +kernel
theorem bf267_995 : am_fetch (am_mth 267) 995 = some (.iaload, 1, [], [5, 6, 7]) := by decide +kernel
theorem bf267_996 : am_fetch (am_mth 267) 996 = some (.aload_n 3, 1, [], [5, 6, 7]) := by decide +kernel
theorem bf267_997 : am_fetch (am_mth 267) 997 = some (.invokestatic 186, 3, [0, 191, 5, 1100, 1101, 45], [5, 6, 7]) := by decide +kernel
theorem bf267_1000 : am_fetch (am_mth 267) 1000 = some (.istore 5, 2, [], [5, 6, 7]) := by decide +kernel
theorem bf267_1002 : am_fetch (am_mth 267) 1002 = some (.aload_n 2, 1, [], [5, 6, 7]) := by decide +kernel
theorem bf267_1003 : am_fetch (am_mth 267) 1003 = some (.aload_n 0, 1, [], [5, 6, 7]) := by decide +kernel
theorem bf267_1004 : am_fetch (am_mth 267) 1004 = some (.iload 4, 2, [], [5, 6, 7]) := by decide +kernel
theorem bf267_1006 : am_fetch (am_mth 267) 1006 = some (.iconst 1, 1, [], [5, 6, 7]) := by decide +kernel
theorem bf267_1007 : am_fetch (am_mth 267) 1007 = some (.iadd, 1, [], [5, 6, 7]) := by decide +kernel
theorem bf267_1008 : am_fetch (am_mth 267) 1008 = some (.iaload, 1, [], [5, 6, 7]) := by decide +kernel
theorem bf267_1009 : am_fetch (am_mth 267) 1009 = some (.aload_n 0, 1, [], [5, 6, 7]) := by decide +kernel
theorem bf267_1010 : am_fetch (am_mth 267) 1010 = some (.iload 4, 2, [], [5, 6, 7]) := by decide +kernel
theorem bf267_1012 : am_fetch (am_mth 267) 1012 = some (.iconst 2, 1, [], [5, 6, 7]) := by decide +kernel
theorem bf267_1013 : am_fetch (am_mth 267) 1013 = some (.iadd, 1, [], [5, 6, 7]) := by decide +kernel
theorem bf267_1014 : am_fetch (am_mth 267) 1014 = some (.iaload, 1, [], [5, 6, 7]) := by decide +kernel
theorem bf267_1015 : am_fetch (am_mth 267) 1015 = some (.aload_n 0, 1, [], [5, 6, 7]) := by decide +kernel
theorem bf267_1016 : am_fetch (am_mth 267) 1016 = some (.iload 4, 2, [], [5, 6, 7]) := by decide +kernel
theorem bf267_1018 : am_fetch (am_mth 267) 1018 = some (.iconst 3, 1, [], [5, 6, 7]) := by decide +kernel
theorem bf267_1019 : am_fetch (am_mth 267) 1019 = some (.iadd, 1, [], [5, 6, 7]) := by decide +kernel
theorem bf267_1020 : am_fetch (am_mth 267) 1020 = some (.iaload, 1, [], [5, 6, 7]) := by decide +kernel
theorem bf267_1021 : am_fetch (am_mth 267) 1021 = some (.invokevirtual 188, 3, [0, 214, 3, 11, 1620, 1621, 1622, 48], [5, 6, 7]) := by decide +kernel
theorem bf267_1024 : am_fetch (am_mth 267) 1024 = some (.istore 6, 2, [], [5, 6, 7]) := by decide +kernel
theorem bf267_1026 : am_fetch (am_mth 267) 1026 = some (.goto 406, 3, [], [5, 6, 7]) := by decide +kernel
theorem bf267_1029 : am_fetch (am_mth 267) 1029 = some (.aload_n 1, 1, [], [5, 6, 7]) := by decide +kernel
theorem bf267_1030 : am_fetch (am_mth 267) 1030 = some (.aload_n 0, 1, [], [5, 6, 7]) := by decide +kernel
theorem bf267_1031 : am_fetch (am_mth 267) 1031 = some (.iload 4, 2, [], [5, 6, 7]) := by decide +kernel
theorem bf267_1033 : am_fetch (am_mth 267) 1033 = some (.iconst 1, 1, [], [5, 6, 7]) := by decide +kernel
theorem bf267_1034 : am_fetch (am_mth 267) 1034 = some (.iadd, 1, [], [5, 6, 7]) := by decide +kernel
theorem bf267_1035 : am_fetch (am_mth 267) 1035 = some (.iaload, 1, [], [5, 6, 7]) := by decide +kernel
theorem bf267_1036 : am_fetch (am_mth 267) 1036 = some (.aload_n 0, 1, [], [5, 6, 7]) := by decide +kernel
theorem bf267_1037 : am_fetch (am_mth 267) 1037 = some (.iload 4, 2, [], [5, 6, 7]) := by decide +kernel
theorem bf267_1039 : am_fetch (am_mth 267) 1039 = some (.iconst 2, 1, [], [5, 6, 7]) := by decide +kernel
theorem bf267_1040 : am_fetch (am_mth 267) 1040 = some (.iadd, 1, [], [5, 6, 7]) := by decide +kernel
theorem bf267_1041 : am_fetch (am_mth 267) 1041 = some (.iaload, 1, [], [5, 6, 7]) := by decide +kernel
theorem bf267_1042 : am_fetch (am_mth 267) 1042 = some (.aload_n 3, 1, [], [5, 6, 7]) := by decide +kernel
theorem bf267_1043 : am_fetch (am_mth 267) 1043 = some (.invokestatic 189, 3, [0, 192, 4, 1104, 1105, 45], [5, 6, 7]) := by decide +kernel
theorem bf267_1046 : am_fetch (am_mth 267) 1046 = some (.istore 5, 2, [], [5, 6, 7]) := by decide +kernel
theorem bf267_1048 : am_fetch (am_mth 267) 1048 = some (.aload_n 2, 1, [], [5, 6, 7]) := by decide +kernel
theorem bf267_1049 : am_fetch (am_mth 267) 1049 = some (.aload_n 0, 1, [], [5, 6, 7]) := by decide +kernel
theorem bf267_1050 : am_fetch (am_mth 267) 1050 = some (.iload 4, 2, [], [5, 6, 7]) := by decide +kernel
theorem bf267_1052 : am_fetch (am_mth 267) 1052 = some (.iconst 1, 1, [], [5, 6, 7]) := by decide +kernel
theorem bf267_1053 : am_fetch (am_mth 267) 1053 = some (.iadd, 1, [], [5, 6, 7]) := by decide +kernel
theorem bf267_1054 : am_fetch (am_mth 267) 1054 = some (.iaload, 1, [], [5, 6, 7]) := by decide +kernel
theorem bf267_1055 : am_fetch (am_mth 267) 1055 = some (.aload_n 0, 1, [], [5, 6, 7]) := by decide +kernel
theorem bf267_1056 : am_fetch (am_mth 267) 1056 = some (.iload 4, 2, [], [5, 6, 7]) := by decide +kernel
theorem bf267_1058 : am_fetch (am_mth 267) 1058 = some (.iconst 2, 1, [], [5, 6, 7]) := by decide +kernel
theorem bf267_1059 : am_fetch (am_mth 267) 1059 = some (.iadd, 1, [], [5, 6, 7]) := by decide +kernel
theorem bf267_1060 : am_fetch (am_mth 267) 1060 = some (.iaload, 1, [], [5, 6, 7]) := by decide +kernel
theorem bf267_1061 : am_fetch (am_mth 267) 1061 = some (.invokevirtual 191, 3, [0, 183, 2, 11, 1624, 1625, 1626, 48], [5, 6, 7]) := by decide +kernel
theorem bf267_1064 : am_fetch (am_mth 267) 1064 = some (.istore 6, 2, [], [5, 6, 7]) := by decide +kernel
theorem bf267_1066 : am_fetch (am_mth 267) 1066 = some (.goto 366, 3, [], [5, 6, 7]) := by decide +kernel
theorem bf267_1069 : am_fetch (am_mth 267) 1069 = some (.aload_n 1, 1, [], [5, 6, 7]) := by decide +kernel
theorem bf267_1070 : am_fetch (am_mth 267) 1070 = some (.aload_n 0, 1, [], [5, 6, 7]) := by decide +kernel
theorem bf267_1071 : am_fetch (am_mth 267) 1071 = some (.iload 4, 2, [], [5, 6, 7]) := by decide +kernel
theorem bf267_1073 : am_fetch (am_mth 267) 1073 = some (.iconst 1, 1, [], [5, 6, 7]) := by decide +kernel
theorem bf267_1074 : am_fetch (am_mth 267) 1074 = some (.iadd, 1, [], [5, 6, 7]) := by decide +kernel
theorem bf267_1075 : am_fetch (am_mth 267) 1075 = some (.iaload, 1, [], [5, 6, 7]) := by decide +kernel
theorem bf267_1076 : am_fetch (am_mth 267) 1076 = some (.aload_n 0, 1, [], [5, 6, 7]) := by decide +kernel
theorem bf267_1077 : am_fetch (am_mth 267) 1077 = some (.iload 4, 2, [], [5, 6, 7]) := by decide +kernel
theorem bf267_1079 : am_fetch (am_mth 267) 1079 = some (.iconst 2, 1, [], [5, 6, 7]) := by decide +kernel
theorem bf267_1080 : am_fetch (am_mth 267) 1080 = some (.iadd, 1, [], [5, 6, 7]) := by decide +kernel
theorem bf267_1081 : am_fetch (am_mth 267) 1081 = some (.iaload, 1, [], [5, 6, 7]) := by decide +kernel
theorem bf267_1082 : am_fetch (am_mth 267) 1082 = some (.aload_n 3, 1, [], [5, 6, 7]) := by decide +kernel
theorem bf267_1083 : am_fetch (am_mth 267) 1083 = some (.invokestatic 192, 3, [0, 193, 4, 1116, 1117, 45], [5, 6, 7]) := by decide +kernel
theorem bf267_1086 : am_fetch (am_mth 267) 1086 = some (.istore 5, 2, [], [5, 6, 7]) := by decide +kernel
theorem bf267_1088 : am_fetch (am_mth 267) 1088 = some (.aload_n 2, 1, [], [5, 6, 7]) := by decide +kernel
theorem bf267_1089 : am_fetch (am_mth 267) 1089 = some (.aload_n 0, 1, [], [5, 6, 7]) := by decide +kernel
theorem bf267_1090 : am_fetch (am_mth 267) 1090 = some (.iload 4, 2, [], [5, 6, 7]) := by decide +kernel
theorem bf267_1092 : am_fetch (am_mth 267) 1092 = some (.iconst 1, 1, [], [5, 6, 7]) := by decide +kernel
theorem bf267_1093 : am_fetch (am_mth 267) 1093 = some (.iadd, 1, [], [5, 6, 7]) := by decide +kernel
theorem bf267_1094 : am_fetch (am_mth 267) 1094 = some (.iaload, 1, [], [5, 6, 7]) := by decide +kernel
theorem bf267_1095 : am_fetch (am_mth 267) 1095 = some (.aload_n 0, 1, [], [5, 6, 7]) := by decide +kernel
theorem bf267_1096 : am_fetch (am_mth 267) 1096 = some (.iload 4, 2, [], [5, 6, 7]) := by decide +kernel
theorem bf267_1098 : am_fetch (am_mth 267) 1098 = some (.iconst 2, 1, [], [5, 6, 7]) := by decide +kernel
theorem bf267_1099 : am_fetch (am_mth 267) 1099 = some (.iadd, 1, [], [5, 6, 7]) := by decide +kernel
theorem bf267_1100 : am_fetch (am_mth 267) 1100 = some (.iaload, 1, [], [5, 6, 7]) := by decide +kernel
theorem bf267_1101 : am_fetch (am_mth 267) 1101 = some (.invokevirtual 194, 3, [0, 184, 2, 11, 1628, 1629, 1630, 48], [5, 6, 7]) := by decide +kernel
theorem bf267_1104 : am_fetch (am_mth 267) 1104 = some (.lstore 6, 2, [], [5, 6, 7]) := by decide +kernel
theorem bf267_1106 : am_fetch (am_mth 267) 1106 = some (.goto 326, 3, [], [5, 6, 7]) := by decide +kernel
theorem bf267_1109 : am_fetch (am_mth 267) 1109 = some (.aload_n 1, 1, [], [5, 6, 7]) := by decide +kernel
theorem bf267_1110 : am_fetch (am_mth 267) 1110 = some (.aload_n 0, 1, [], [5, 6, 7]) := by decide +kernel
theorem bf267_1111 : am_fetch (am_mth 267) 1111 = some (.iload 4, 2, [], [5, 6, 7]) := by decide +kernel
theorem bf267_1113 : am_fetch (am_mth 267) 1113 = some (.iconst 1, 1, [], [5, 6, 7]) := by decide +kernel
theorem bf267_1114 : am_fetch (am_mth 267) 1114 = some (.iadd, 1, [], [5, 6, 7]) := by decide +kernel
theorem bf267_1115 : am_fetch (am_mth 267) 1115 = some (.iaload, 1, [], [5, 6, 7]) := by decide +kernel
theorem bf267_1116 : am_fetch (am_mth 267) 1116 = some (.aload_n 0, 1, [], [5, 6, 7]) := by decide +kernel
theorem bf267_1117 : am_fetch (am_mth 267) 1117 = some (.iload 4, 2, [], [5, 6, 7]) := by decide +kernel
theorem bf267_1119 : am_fetch (am_mth 267) 1119 = some (.iconst 2, 1, [], [5, 6, 7]) := by decide +kernel
theorem bf267_1120 : am_fetch (am_mth 267) 1120 = some (.iadd, 1, [], [5, 6, 7]) := by decide +kernel
theorem bf267_1121 : am_fetch (am_mth 267) 1121 = some (.iaload, 1, [], [5, 6, 7]) := by decide +kernel
theorem bf267_1122 : am_fetch (am_mth 267) 1122 = some (.aload_n 0, 1, [], [5, 6, 7]) := by decide +kernel
theorem bf267_1123 : am_fetch (am_mth 267) 1123 = some (.iload 4, 2, [], [5, 6, 7]) := by decide +kernel
theorem bf267_1125 : am_fetch (am_mth 267) 1125 = some (.iconst 3, 1, [], [5, 6, 7]) := by decide +kernel
theorem bf267_1126 : am_fetch (am_mth 267) 1126 = some (.iadd, 1, [], [5, 6, 7]) := by decide +kernel
theorem bf267_1127 : am_fetch (am_mth 267) 1127 = some (.iaload, 1, [], [5, 6, 7]) := by decide +kernel
theorem bf267_1128 : am_fetch (am_mth 267) 1128 = some (.aload_n 3, 1, [], [5, 6, 7]) := by decide +kernel
theorem bf267_1129 : am_fetch (am_mth 267) 1129 = some (.invokestatic 195, 3, [0, 194, 5, 1120, 1121, 45], [5, 6, 7]) := by decide +kernel
theorem bf267_1132 : am_fetch (am_mth 267) 1132 = some (.istore 5, 2, [], [5, 6, 7]) := by decide +kernel
theorem bf267_1134 : am_fetch (am_mth 267) 1134 = some (.aload_n 2, 1, [], [5, 6, 7]) := by decide +kernel
theorem bf267_1135 : am_fetch (am_mth 267) 1135 = some (.aload_n 0, 1, [], [5, 6, 7]) := by decide +kernel
theorem bf267_1136 : am_fetch (am_mth 267) 1136 = some (.iload 4, 2, [], [5, 6, 7]) := by decide +kernel
theorem bf267_1138 : am_fetch (am_mth 267) 1138 = some (.iconst 1, 1, [], [5, 6, 7]) := by decide +kernel
theorem bf267_1139 : am_fetch (am_mth 267) 1139 = some (.iadd, 1, [], [5, 6, 7]) := by decide +kernel
theorem bf267_1140 : am_fetch (am_mth 267) 1140 = some (.iaload, 1, [], [5, 6, 7]) := by decide +kernel
theorem bf267_1141 : am_fetch (am_mth 267) 1141 = some (.aload_n 0, 1, [], [5, 6, 7]) := by decide +kernel
theorem bf267_1142 : am_fetch (am_mth 267) 1142 = some (.iload 4, 2, [], [5, 6, 7]) := by decide +kernel
theorem bf267_1144 : am_fetch (am_mth 267) 1144 = some (.iconst 2, 1, [], [5, 6, 7]) := by decide +kernel
theorem bf267_1145 : am_fetch (am_mth 267) 1145 = some (.iadd, 1, [], [5, 6, 7]) := by decide +kernel
theorem bf267_1146 : am_fetch (am_mth 267) 1146 = some (.iaload, 1, [], [5, 6, 7]) := by decide +kernel
theorem bf267_1147 : am_fetch (am_mth 267) 1147 = some (.aload_n 0, 1, [], [5, 6, 7]) := by decide +kernel
theorem bf267_1148 : am_fetch (am_mth 267) 1148 = some (.iload 4, 2, [], [5, 6, 7]) := by decide +kernel
theorem bf267_1150 : am_fetch (am_mth 267) 1150 = some (.iconst 3, 1, [], [5, 6, 7]) := by decide +kernel
theorem bf267_1151 : am_fetch (am_mth 267) 1151 = some (.iadd, 1, [], [5, 6, 7]) := by decide +kernel
theorem bf267_1152 : am_fetch (am_mth 267) 1152 = some (.iaload, 1, [], [5, 6, 7]) := by decide +kernel
theorem bf267_1153 : am_fetch (am_mth 267) 1153 = some (.invokevirtual 197, 3, [0, 228, 3, 11, 1636, 1637, 1638, 48], [5, 6, 7]) := by decide +kernel
theorem bf267_1156 : am_fetch (am_mth 267) 1156 = some (.istore 6, 2, [], [5, 6, 7]) := by decide +kernel
theorem bf267_1158 : am_fetch (am_mth 267) 1158 = some (.goto 274, 3, [], [5, 6, 7]) := by decide +kernel
theorem bf267_1161 : am_fetch (am_mth 267) 1161 = some (.aload_n 1, 1, [], [5, 6, 7]) := by decide +kernel
theorem bf267_1162 : am_fetch (am_mth 267) 1162 = some (.aload_n 0, 1, [], [5, 6, 7]) := by decide +kernel
theorem bf267_1163 : am_fetch (am_mth 267) 1163 = some (.iload 4, 2, [], [5, 6, 7]) := by decide +kernel
theorem bf267_1165 : am_fetch (am_mth 267) 1165 = some (.iconst 1, 1, [], [5, 6, 7]) := by decide +kernel
theorem bf267_1166 : am_fetch (am_mth 267) 1166 = some (.iadd, 1, [], [5, 6, 7]) := by decide +kernel
theorem bf267_1167 : am_fetch (am_mth 267) 1167 = some (.iaload, 1, [], [5, 6, 7]) := by decide +kernel
theorem bf267_1168 : am_fetch (am_mth 267) 1168 = some (.aload_n 0, 1, [], [5, 6, 7]) := by decide +kernel
theorem bf267_1169 : am_fetch (am_mth 267) 1169 = some (.iload 4, 2, [], [5, 6, 7]) := by decide +kernel
theorem bf267_1171 : am_fetch (am_mth 267) 1171 = some (.iconst 2, 1, [], [5, 6, 7]) := by decide +kernel
theorem bf267_1172 : am_fetch (am_mth 267) 1172 = some (.iadd, 1, [], [5, 6, 7]) := by decide +kernel
theorem bf267_1173 : am_fetch (am_mth 267) 1173 = some (.iaload, 1, [], [5, 6, 7]) := by decide +kernel
theorem bf267_1174 : am_fetch (am_mth 267) 1174 = some (.aload_n 3, 1, [], [5, 6, 7]) := by decide +kernel
theorem bf267_1175 : am_fetch (am_mth 267) 1175 = some (.invokestatic 198, 3, [0, 249, 4, 1128, 1129, 45], [5, 6, 7]) := by decide +kernel
theorem bf267_1178 : am_fetch (am_mth 267) 1178 = some (.istore 5, 2, [], [5, 6, 7]) := by decide +kernel
theorem bf267_1180 : am_fetch (am_mth 267) 1180 = some (.aload_n 2, 1, [], [5, 6, 7]) := by decide +kernel
theorem bf267_1181 : am_fetch (am_mth 267) 1181 = some (.aload_n 0, 1, [], [5, 6, 7]) := by decide +kernel
theorem bf267_1182 : am_fetch (am_mth 267) 1182 = some (.iload 4, 2, [], [5, 6, 7]) := by decide +kernel
theorem bf267_1184 : am_fetch (am_mth 267) 1184 = some (.iconst 1, 1, [], [5, 6, 7]) := by decide +kernel
theorem bf267_1185 : am_fetch (am_mth 267) 1185 = some (.iadd, 1, [], [5, 6, 7]) := by decide +kernel
theorem bf267_1186 : am_fetch (am_mth 267) 1186 = some (.iaload, 1, [], [5, 6, 7]) := by decide +kernel
theorem bf267_1187 : am_fetch (am_mth 267) 1187 = some (.aload_n 0, 1, [], [5, 6, 7]) := by decide +kernel
theorem bf267_1188 : am_fetch (am_mth 267) 1188 = some (.iload 4, 2, [], [5, 6, 7]) := by decide +kernel
theorem bf267_1190 : am_fetch (am_mth 267) 1190 = some (.iconst 2, 1, [], [5, 6, 7]) := by decide +kernel
theorem bf267_1191 : am_fetch (am_mth 267) 1191 = some (.iadd, 1, [], [5, 6, 7]) := by decide +kernel
theorem bf267_1192 : am_fetch (am_mth 267) 1192 = some (.iaload, 1, [], [5, 6, 7]) := by decide +kernel
theorem bf267_1193 : am_fetch (am_mth 267) 1193 = some (.invokevirtual 200, 3, [0, 264, 2, 11, 1640, 1641, 1642, 48], [5, 6, 7]) := by decide +kernel
theorem bf267_1196 : am_fetch (am_mth 267) 1196 = some (.istore 6, 2, [], [5, 6, 7]) := by decide +kernel
theorem bf267_1198 : am_fetch (am_mth 267) 1198 = some (.goto 234, 3, [], [5, 6, 7]) := by decide +kernel
theorem bf267_1201 : am_fetch (am_mth 267) 1201 = some (.aload_n 1, 1, [], [5, 6, 7]) := by decide +kernel
theorem bf267_1202 : am_fetch (am_mth 267) 1202 = some (.aload_n 0, 1, [], [5, 6, 7]) := by decide +kernel
theorem bf267_1203 : am_fetch (am_mth 267) 1203 = some (.iload 4, 2, [], [5, 6, 7]) := by decide +kernel
theorem bf267_1205 : am_fetch (am_mth 267) 1205 = some (.iconst 1, 1, [], [5, 6, 7]) := by decide +kernel
theorem bf267_1206 : am_fetch (am_mth 267) 1206 = some (.iadd, 1, [], [5, 6, 7]) := by decide +kernel
theorem bf267_1207 : am_fetch (am_mth 267) 1207 = some (.iaload, 1, [], [5, 6, 7]) := by decide +kernel
theorem bf267_1208 : am_fetch (am_mth 267) 1208 = some (.aload_n 3, 1, [], [5, 6, 7]) := by decide +kernel
theorem bf267_1209 : am_fetch (am_mth 267) 1209 = some (.invokestatic 201, 3, [0, 148, 3, 1132, 1133, 45], [5, 6, 7]) := by decide +kernel
theorem bf267_1212 : am_fetch (am_mth 267) 1212 = some (.istore 5, 2, [], [5, 6, 7]) := by decide +kernel
theorem bf267_1214 : am_fetch (am_mth 267) 1214 = some (.aload_n 2, 1, [], [5, 6, 7]) := by decide +kernel
theorem bf267_1215 : am_fetch (am_mth 267) 1215 = some (.aload_n 0, 1, [], [5, 6, 7]) := by decide +kernel
theorem bf267_1216 : am_fetch (am_mth 267) 1216 = some (.iload 4, 2, [], [5, 6, 7]) := by decide +kernel
theorem bf267_1218 : am_fetch (am_mth 267) 1218 = some (.iconst 1, 1, [], [5, 6, 7]) := by decide +kernel
theorem bf267_1219 : am_fetch (am_mth 267) 1219 = some (.iadd, 1, [], [5, 6, 7]) := by decide +kernel
theorem bf267_1220 : am_fetch (am_mth 267) 1220 = some (.iaload, 1, [], [5, 6, 7]) := by decide +kernel
theorem bf267_1221 : am_fetch (am_mth 267) 1221 = some (.invokevirtual 203, 3, [0, 185, 1, 11, 1652, 1653, 1654, 48], [5, 6, 7]) := by decide +kernel
theorem bf267_1224 : am_fetch (am_mth 267) 1224 = some (.dstore 6, 2, [], [5, 6, 7]) := by decide +kernel
theorem bf267_1226 : am_fetch (am_mth 267) 1226 = some (.goto 206, 3, [], [5, 6, 7]) := by decide +kernel
theorem bf267_1229 : am_fetch (am_mth 267) 1229 = some (.aload_n 1, 1, [], [5, 6, 7]) := by decide +kernel
theorem bf267_1230 : am_fetch (am_mth 267) 1230 = some (.aload_n 0, 1, [], [5, 6, 7]) := by decide +kernel
theorem bf267_1231 : am_fetch (am_mth 267) 1231 = some (.iload 4, 2, [], [5, 6, 7]) := by decide +kernel
theorem bf267_1233 : am_fetch (am_mth 267) 1233 = some (.iconst 1, 1, [], [5, 6, 7]) := by decide +kernel
theorem bf267_1234 : am_fetch (am_mth 267) 1234 = some (.iadd, 1, [], [5, 6, 7]) := by decide +kernel
theorem bf267_1235 : am_fetch (am_mth 267) 1235 = some (.iaload, 1, [], [5, 6, 7]) := by decide +kernel
theorem bf267_1236 : am_fetch (am_mth 267) 1236 = some (.aload_n 0, 1, [], [5, 6, 7]) := by decide +kernel
theorem bf267_1237 : am_fetch (am_mth 267) 1237 = some (.iload 4, 2, [], [5, 6, 7]) := by decide +kernel
theorem bf267_1239 : am_fetch (am_mth 267) 1239 = some (.iconst 2, 1, [], [5, 6, 7]) := by decide +kernel
theorem bf267_1240 : am_fetch (am_mth 267) 1240 = some (.iadd, 1, [], [5, 6, 7]) := by decide +kernel
theorem bf267_1241 : am_fetch (am_mth 267) 1241 = some (.iaload, 1, [], [5, 6, 7]) := by decide +kernel
theorem bf267_1242 : am_fetch (am_mth 267) 1242 = some (.aload_n 3, 1, [], [5, 6, 7]) := by decide +kernel
theorem bf267_1243 : am_fetch (am_mth 267) 1243 = some (.invokestatic 204, 3, [0, 235, 4, 1136, 1137, 45], [5, 6, 7]) := by decide +kernel
theorem bf267_1246 : am_fetch (am_mth 267) 1246 = some (.istore 5, 2, [], [5, 6, 7]) := by decide +kernel
theorem bf267_1248 : am_fetch (am_mth 267) 1248 = some (.aload_n 2, 1, [], [5, 6, 7]) := by decide +kernel
theorem bf267_1249 : am_fetch (am_mth 267) 1249 = some (.aload_n 0, 1, [], [5, 6, 7]) := by decide +kernel
theorem bf267_1250 : am_fetch (am_mth 267) 1250 = some (.iload 4, 2, [], [5, 6, 7]) := by decide +kernel
theorem bf267_1252 : am_fetch (am_mth 267) 1252 = some (.iconst 1, 1, [], [5, 6, 7]) := by decide +kernel
theorem bf267_1253 : am_fetch (am_mth 267) 1253 = some (.iadd, 1, [], [5, 6, 7]) := by decide +kernel
theorem bf267_1254 : am_fetch (am_mth 267) 1254 = some (.iaload, 1, [], [5, 6, 7]) := by decide +kernel
theorem bf267_1255 : am_fetch (am_mth 267) 1255 = some (.aload_n 0, 1, [], [5, 6, 7]) := by decide +kernel
theorem bf267_1256 : am_fetch (am_mth 267) 1256 = some (.iload 4, 2, [], [5, 6, 7]) := by decide +kernel
theorem bf267_1258 : am_fetch (am_mth 267) 1258 = some (.iconst 2, 1, [], [5, 6, 7]) := by decide +kernel
theorem bf267_1259 : am_fetch (am_mth 267) 1259 = some (.iadd, 1, [], [5, 6, 7]) := by decide +kernel
theorem bf267_1260 : am_fetch (am_mth 267) 1260 = some (.iaload, 1, [], [5, 6, 7]) := by decide +kernel
theorem bf267_1261 : am_fetch (am_mth 267) 1261 = some (.invokevirtual 206, 3, [0, 247, 2, 11, 1661, 1662, 1663, 48], [5, 6, 7]) := by decide +kernel
theorem bf267_1264 : am_fetch (am_mth 267) 1264 = some (.istore 6, 2, [], [5, 6, 7]) := by decide +kernel
theorem bf267_1266 : am_fetch (am_mth 267) 1266 = some (.goto 166, 3, [], [5, 6, 7]) := by decide +kernel
theorem bf267_1269 : am_fetch (am_mth 267) 1269 = some (.aload_n 1, 1, [], [5, 6, 7]) := by decide +kernel
theorem bf267_1270 : am_fetch (am_mth 267) 1270 = some (.aload_n 0, 1, [], [5, 6, 7]) := by decide +kernel
theorem bf267_1271 : am_fetch (am_mth 267) 1271 = some (.iload 4, 2, [], [5, 6, 7]) := by decide +kernel
theorem bf267_1273 : am_fetch (am_mth 267) 1273 = some (.iconst 1, 1, [], [5, 6, 7]) := by decide +kernel
theorem bf267_1274 : am_fetch (am_mth 267) 1274 = some (.iadd, 1, [], [5, 6, 7]) := by decide +kernel
theorem bf267_1275 : am_fetch (am_mth 267) 1275 = some (.iaload, 1, [], [5, 6, 7]) := by decide +kernel
theorem bf267_1276 : am_fetch (am_mth 267) 1276 = some (.aload_n 3, 1, [], [5, 6, 7]) := by decide +kernel
theorem bf267_1277 : am_fetch (am_mth 267) 1277 = some (.invokestatic 207, 3, [0, 236, 3, 1140, 1141, 45], [5, 6, 7]) := by decide +kernel
theorem bf267_1280 : am_fetch (am_mth 267) 1280 = some (.istore 5, 2, [], [5, 6, 7]) := by decide +kernel
theorem bf267_1282 : am_fetch (am_mth 267) 1282 = some (.aload_n 2, 1, [], [5, 6, 7]) := by decide +kernel
theorem bf267_1283 : am_fetch (am_mth 267) 1283 = some (.aload_n 0, 1, [], [5, 6, 7]) := by decide +kernel
theorem bf267_1284 : am_fetch (am_mth 267) 1284 = some (.iload 4, 2, [], [5, 6, 7]) := by decide +kernel
theorem bf267_1286 : am_fetch (am_mth 267) 1286 = some (.iconst 1, 1, [], [5, 6, 7]) := by decide +kernel
theorem bf267_1287 : am_fetch (am_mth 267) 1287 = some (.iadd, 1, [], [5, 6, 7]) := by decide +kernel
theorem bf267_1288 : am_fetch (am_mth 267) 1288 = some (.iaload, 1, [], [5, 6, 7]) := by decide +kernel
theorem bf267_1289 : am_fetch (am_mth 267) 1289 = some (.invokevirtual 209, 3, [0, 252, 1, 11, 1670, 1671, 1672, 48], [5, 6, 7]) := by decide +kernel
theorem bf267_1292 : am_fetch (am_mth 267) 1292 = some (.istore 6, 2, [], [5, 6, 7]) := by decide +kernel
theorem bf267_1294 : am_fetch (am_mth 267) 1294 = some (.goto 138, 3, [], [5, 6, 7]) := by decide +kernel
theorem bf267_1297 : am_fetch (am_mth 267) 1297 = some (.aload_n 1, 1, [], [5, 6, 7]) := by decide +kernel
theorem bf267_1298 : am_fetch (am_mth 267) 1298 = some (.aload_n 0, 1, [], [5, 6, 7]) := by decide +kernel
theorem bf267_1299 : am_fetch (am_mth 267) 1299 = some (.iload 4, 2, [], [5, 6, 7]) := by decide +kernel
theorem bf267_1301 : am_fetch (am_mth 267) 1301 = some (.iconst 1, 1, [], [5, 6, 7]) := by decide +kernel
theorem bf267_1302 : am_fetch (am_mth 267) 1302 = some (.iadd, 1, [], [5, 6, 7]) := by decide +kernel
theorem bf267_1303 : am_fetch (am_mth 267) 1303 = some (.iaload, 1, [], [5, 6, 7]) := by decide +kernel
theorem bf267_1304 : am_fetch (am_mth 267) 1304 = some (.aload_n 0, 1, [], [5, 6, 7]) := by decide +kernel
theorem bf267_1305 : am_fetch (am_mth 267) 1305 = some (.iload 4, 2, [], [5, 6, 7]) := by decide +kernel
theorem bf267_1307 : am_fetch (am_mth 267) 1307 = some (.iconst 2, 1, [], [5, 6, 7]) := by decide +kernel
theorem bf267_1308 : am_fetch (am_mth 267) 1308 = some (.iadd, 1, [], [5, 6, 7]) := by decide +kernel
theorem bf267_1309 : am_fetch (am_mth 267) 1309 = some (.iaload, 1, [], [5, 6, 7]) := by decide +kernel
theorem bf267_1310 : am_fetch (am_mth 267) 1310 = some (.aload_n 3, 1, [], [5, 6, 7]) := by decide +kernel
theorem bf267_1311 : am_fetch (am_mth 267) 1311 = some (.invokestatic 210, 3, [0, 220, 4, 1144, 1145, 45], [5, 6, 7]) := by decide +kernel
theorem bf267_1314 : am_fetch (am_mth 267) 1314 = some (.istore 5, 2, [], [5, 6, 7]) := by decide +kernel
theorem bf267_1316 : am_fetch (am_mth 267) 1316 = some (.aload_n 2, 1, [], [5, 6, 7]) := by decide +kernel
theorem bf267_1317 : am_fetch (am_mth 267) 1317 = some (.aload_n 0, 1, [], [5, 6, 7]) := by decide +kernel
theorem bf267_1318 : am_fetch (am_mth 267) 1318 = some (.iload 4, 2, [], [5, 6, 7]) := by decide +kernel
theorem bf267_1320 : am_fetch (am_mth 267) 1320 = some (.iconst 1, 1, [], [5, 6, 7]) := by decide +kernel
theorem bf267_1321 : am_fetch (am_mth 267) 1321 = some (.iadd, 1, [], [5, 6, 7]) := by decide +kernel
theorem bf267_1322 : am_fetch (am_mth 267) 1322 = some (.iaload, 1, [], [5, 6, 7]) := by decide +kernel
theorem bf267_1323 : am_fetch (am_mth 267) 1323 = some (.aload_n 0, 1, [], [5, 6, 7]) := by decide +kernel
theorem bf267_1324 : am_fetch (am_mth 267) 1324 = some (.iload 4, 2, [], [5, 6, 7]) := by decide +kernel
theorem bf267_1326 : am_fetch (am_mth 267) 1326 = some (.iconst 2, 1, [], [5, 6, 7]) := by decide +kernel
theorem bf267_1327 : am_fetch (am_mth 267) 1327 = some (.iadd, 1, [], [5, 6, 7]) := by decide +kernel
theorem bf267_1328 : am_fetch (am_mth 267) 1328 = some (.iaload, 1, [], [5, 6, 7]) := by decide +kernel
theorem bf267_1329 : am_fetch (am_mth 267) 1329 = some (.invokevirtual 212, 3, [0, 231, 2, 11, 1678, 1679, 1680, 48], [5, 6, 7]) := by decide +kernel
theorem bf267_1332 : am_fetch (am_mth 267) 1332 = some (.istore 6, 2, [], [5, 6, 7]) := by decide +kernel
theorem bf267_1334 : am_fetch (am_mth 267) 1334 = some (.goto 98, 3, [], [5, 6, 7]) := by decide +kernel
theorem bf267_1337 : am_fetch (am_mth 267) 1337 = some (.aload_n 1, 1, [], [5, 6, 7]) := by decide +kernel
theorem bf267_1338 : am_fetch (am_mth 267) 1338 = some (.aload_n 0, 1, [], [5, 6, 7]) := by decide +kernel
theorem bf267_1339 : am_fetch (am_mth 267) 1339 = some (.iload 4, 2, [], [5, 6, 7]) := by decide +kernel
theorem bf267_1341 : am_fetch (am_mth 267) 1341 = some (.iconst 1, 1, [], [5, 6, 7]) := by decide +kernel
theorem bf267_1342 : am_fetch (am_mth 267) 1342 = some (.iadd, 1, [], [5, 6, 7]) := by decide +kernel
theorem bf267_1343 : am_fetch (am_mth 267) 1343 = some (.iaload, 1, [], [5, 6, 7]) := by decide +kernel
theorem bf267_1344 : am_fetch (am_mth 267) 1344 = some (.aload_n 0, 1, [], [5, 6, 7]) := by decide +kernel
theorem bf267_1345 : am_fetch (am_mth 267) 1345 = some (.iload 4, 2, [], [5, 6, 7]) := by decide +kernel
theorem bf267_1347 : am_fetch (am_mth 267) 1347 = some (.iconst 2, 1, [], [5, 6, 7]) := by decide +kernel
theorem bf267_1348 : am_fetch (am_mth 267) 1348 = some (.iadd, 1, [], [5, 6, 7]) := by decide +kernel
theorem bf267_1349 : am_fetch (am_mth 267) 1349 = some (.iaload, 1, [], [5, 6, 7]) := by decide +kernel
theorem bf267_1350 : am_fetch (am_mth 267) 1350 = some (.aload_n 3, 1, [], [5, 6, 7]) := by decide +kernel
theorem bf267_1351 : am_fetch (am_mth 267) 1351 = some (.invokestatic 213, 3, [0, 237, 4, 1152, 1153, 45], [5, 6, 7]) := by decide +kernel
theorem bf267_1354 : am_fetch (am_mth 267) 1354 = some (.istore 5, 2, [], [5, 6, 7]) := by decide +kernel
theorem bf267_1356 : am_fetch (am_mth 267) 1356 = some (.aload_n 2, 1, [], [6, 7]) := by decide +kernel
theorem bf267_1357 : am_fetch (am_mth 267) 1357 = some (.aload_n 0, 1, [], [6, 7]) := by decide +kernel
theorem bf267_1358 : am_fetch (am_mth 267) 1358 = some (.iload 4, 2, [], [6, 7]) := by decide +kernel
theorem bf267_1360 : am_fetch (am_mth 267) 1360 = some (.iconst 1, 1, [], [6, 7]) := by decide +kernel
theorem bf267_1361 : am_fetch (am_mth 267) 1361 = some (.iadd, 1, [], [6, 7]) := by decide +kernel
theorem bf267_1362 : am_fetch (am_mth 267) 1362 = some (.iaload, 1, [], [6, 7]) := by decide +kernel
theorem bf267_1363 : am_fetch (am_mth 267) 1363 = some (.aload_n 0, 1, [], [6, 7]) := by decide +kernel
theorem bf267_1364 : am_fetch (am_mth 267) 1364 = some (.iload 4, 2, [], [6, 7]) := by decide +kernel
theorem bf267_1366 : am_fetch (am_mth 267) 1366 = some (.iconst 2, 1, [], [6, 7]) := by decide +kernel
theorem bf267_1367 : am_fetch (am_mth 267) 1367 = some (.iadd, 1, [], [6, 7]) := by decide +kernel
theorem bf267_1368 : am_fetch (am_mth 267) 1368 = some (.iaload, 1, [], [6, 7]) := by decide +kernel
theorem bf267_1369 : am_fetch (am_mth 267) 1369 = some (.invokevirtual 215, 3, [0, 232, 2, 11, 1682, 1683, 1684, 48], [6, 7]) := by decide +kernel
theorem bf267_1372 : am_fetch (am_mth 267) 1372 = some (.istore 6, 2, [], [6, 7]) := by decide +kernel
theorem bf267_1374 : am_fetch (am_mth 267) 1374 = some (.aload_n 2, 1, [], [7]) := by decide +kernel
theorem bf267_1375 : am_fetch (am_mth 267) 1375 = some (.invokevirtual 216, 3, [0, 266, 0, 11, 1234, 1235, 1236, 48], [7]) := by decide +kernel
theorem bf267_1378 : am_fetch (am_mth 267) 1378 = some (.iload 5, 2, [], [7]) := by decide +kernel
theorem bf267_1380 : am_fetch (am_mth 267) 1380 = some (.if_icmp .eq 5, 3, [], [7]) := by decide +kernel
theorem bf267_1383 : am_fetch (am_mth 267) 1383 = some (.iconst 0, 1, [], [0, 1, 2, 3, 4, 5, 6, 7]) := by decide +kernel
theorem bf267_1384 : am_fetch (am_mth 267) 1384 = some (.ireturn, 1, [1], [0, 1, 2, 3, 4, 5, 6, 7]) := by decide +kernel
theorem bf267_1385 : am_fetch (am_mth 267) 1385 = some (.iload 5, 2, [], [7]) := by decide +kernel
theorem bf267_1387 : am_fetch (am_mth 267) 1387 = some (.ifCond .ne 16, 3, [], [5, 7]) := by decide +kernel
theorem bf267_1390 : am_fetch (am_mth 267) 1390 = some (.aload_n 3, 1, [], [5, 7]) := by decide +kernel
theorem bf267_1391 : am_fetch (am_mth 267) 1391 = some (.getfield 13, 3, [1, 9, 0, 485], [5, 7]) := by decide +kernel
theorem bf267_1394 : am_fetch (am_mth 267) 1394 = some (.iload 6, 2, [], [5, 7]) := by decide +kernel
theorem bf267_1396 : am_fetch (am_mth 267) 1396 = some (.i2l, 1, [], [5, 6, 7]) := by decide +kernel
theorem bf267_1397 : am_fetch (am_mth 267) 1397 = some (.lcmp, 1, [], [5, 6, 7]) := by decide +kernel
theorem bf267_1398 : am_fetch (am_mth 267) 1398 = some (.ifCond .eq 5, 3, [], [5, 6, 7]) := by decide +kernel
theorem bf267_1401 : am_fetch (am_mth 267) 1401 = some (.iconst 0, 1, [], [0, 1, 2, 3, 4, 5, 6, 7]) := by decide +kernel
theorem bf267_1402 : am_fetch (am_mth 267) 1402 = some (.ireturn, 1, [1], [0, 1, 2, 3, 4, 5, 6, 7]) := by decide +kernel
theorem bf267_1403 : am_fetch (am_mth 267) 1403 = some (.goto 29, 3, [], [5, 6, 7]) := by decide +kernel
theorem bf267_1406 : am_fetch (am_mth 267) 1406 = some (.aload_n 1, 1, [], [5, 6, 7]) := by decide +kernel
theorem bf267_1407 : am_fetch (am_mth 267) 1407 = some (.invokevirtual 219, 3, [0, 224, 0, 8, 143, 144, 145, 46], [5, 6, 7]) := by decide +kernel
theorem bf267_1410 : am_fetch (am_mth 267) 1410 = some (.pop, 1, [], [5, 6, 7]) := by decide +kernel
theorem bf267_1411 : am_fetch (am_mth 267) 1411 = some (.aload_n 2, 1, [], [5, 6, 7]) := by decide +kernel
theorem bf267_1412 : am_fetch (am_mth 267) 1412 = some (.invokevirtual 223, 3, [0, 215, 0, 11, 1686, 1687, 1688, 48], [5, 6, 7]) := by decide +kernel
theorem bf267_1415 : am_fetch (am_mth 267) 1415 = some (.pop, 1, [], [5, 6, 7]) := by decide +kernel
theorem bf267_1416 : am_fetch (am_mth 267) 1416 = some (.goto 16, 3, [], [5, 6, 7]) := by decide +kernel
theorem bf267_1419 : am_fetch (am_mth 267) 1419 = some (.aload_n 1, 1, [], [5, 6, 7]) := by decide +kernel
theorem bf267_1420 : am_fetch (am_mth 267) 1420 = some (.invokevirtual 224, 3, [0, 250, 0, 8, 211, 212, 213, 46], [5, 6, 7]) := by decide +kernel
theorem bf267_1423 : am_fetch (am_mth 267) 1423 = some (.pop2, 1, [], [5, 6, 7]) := by decide +kernel
theorem bf267_1424 : am_fetch (am_mth 267) 1424 = some (.aload_n 2, 1, [], [5, 6, 7]) := by decide +kernel
theorem bf267_1425 : am_fetch (am_mth 267) 1425 = some (.invokevirtual 228, 3, [0, 265, 0, 11, 1694, 1695, 1696, 48], [5, 6, 7]) := by decide +kernel
theorem bf267_1428 : am_fetch (am_mth 267) 1428 = some (.pop2, 1, [], [5, 6, 7]) := by decide +kernel
theorem bf267_1429 : am_fetch (am_mth 267) 1429 = some (.goto 3, 3, [], [5, 6, 7]) := by decide +kernel
theorem bf267_1432 : am_fetch (am_mth 267) 1432 = some (.iinc 4 5, 3, [], [5, 6, 7]) := by decide +kernel
theorem bf267_1435 : am_fetch (am_mth 267) 1435 = some (.goto (-1408), 3, [], [5, 6, 7]) := by decide +kernel
theorem bf267_1438 : am_fetch (am_mth 267) 1438 = some (.iconst 1, 1, [], [0, 1, 2, 3, 4, 5, 6, 7]) := by decide +kernel
theorem bf267_1439 : am_fetch (am_mth 267) 1439 = some (.ireturn, 1, [1], [0, 1, 2, 3, 4, 5, 6, 7]) := by decide +kernel
theorem bk267_0 {w : am_Wd} {l0 : Nat} : am_run 267 0 [some (.ref l0), none, none, none, none, none, none, none] [] w = am_run 267 3 [some (.ref l0), none, none, none, none, none, none, none] (.ref w.2.1 :: []) (am_nw w (.inr (8, am_df 8 9)) 9) := by
  exact bn bf267_0 bf267_3 rfl rfl (am_ge_nw _ _ _)
theorem bk267_3 {w : am_Wd} {l0 : Nat} {s0 : Nat} : am_run 267 3 [some (.ref l0), none, none, none, none, none, none, none] [.ref s0] w = (am_x 89 [.ref s0] w).bind fun r => bct r fun v w' => am_run 267 7 [some (.ref l0), none, none, none, none, none, none, none] (v.toList ++ [.ref s0]) w' := by
  refine (bu (ls'' := [some (.ref l0), none, none, none, none, none, none, none]) (st' := [.ref s0, .ref s0]) bf267_3 bf267_4 rfl rfl).trans ?_
  exact bkS bf267_4 bf267_7 rfl (by decide +kernel) (Nat.le_of_ble_eq_true rfl) rfl (bhd rfl)
theorem bk267_7 {w : am_Wd} {l0 : Nat} {s0 : Nat} : am_run 267 7 [some (.ref l0), none, none, none, none, none, none, none] [.ref s0] w = am_run 267 11 [some (.ref l0), some (.ref s0), none, none, none, none, none, none] (.ref w.2.1 :: []) (am_nw w (.inr (11, am_df 11 12)) 12) := by
  refine (bu (ls'' := [some (.ref l0), some (.ref s0), none, none, none, none, none, none]) (st' := []) bf267_7 bf267_8 rfl rfl).trans ?_
  exact bn bf267_8 bf267_11 rfl rfl (am_ge_nw _ _ _)
theorem bk267_11 {w : am_Wd} {l0 : Nat} {l1 : Nat} {s0 : Nat} : am_run 267 11 [some (.ref l0), some (.ref l1), none, none, none, none, none, none] [.ref s0] w = (am_x 172 [.ref s0] w).bind fun r => bct r fun v w' => am_run 267 15 [some (.ref l0), some (.ref l1), none, none, none, none, none, none] (v.toList ++ [.ref s0]) w' := by
  refine (bu (ls'' := [some (.ref l0), some (.ref l1), none, none, none, none, none, none]) (st' := [.ref s0, .ref s0]) bf267_11 bf267_12 rfl rfl).trans ?_
  exact bkS bf267_12 bf267_15 rfl (by decide +kernel) (Nat.le_of_ble_eq_true rfl) rfl (bhd rfl)
theorem bk267_15 {w : am_Wd} {l0 : Nat} {l1 : Nat} {s0 : Nat} : am_run 267 15 [some (.ref l0), some (.ref l1), none, none, none, none, none, none] [.ref s0] w = am_run 267 19 [some (.ref l0), some (.ref l1), some (.ref s0), none, none, none, none, none] (.ref w.2.1 :: []) (am_nw w (.inr (9, am_df 9 3)) 3) := by
  refine (bu (ls'' := [some (.ref l0), some (.ref l1), some (.ref s0), none, none, none, none, none]) (st' := []) bf267_15 bf267_16 rfl rfl).trans ?_
  exact bn bf267_16 bf267_19 rfl rfl (am_ge_nw _ _ _)
theorem bk267_19 {w : am_Wd} {l0 : Nat} {l1 : Nat} {l2 : Nat} {s0 : Nat} : am_run 267 19 [some (.ref l0), some (.ref l1), some (.ref l2), none, none, none, none, none] [.ref s0] w = (am_x 35 [.ref s0] w).bind fun r => bct r fun v w' => am_run 267 23 [some (.ref l0), some (.ref l1), some (.ref l2), none, none, none, none, none] (v.toList ++ [.ref s0]) w' := by
  refine (bu (ls'' := [some (.ref l0), some (.ref l1), some (.ref l2), none, none, none, none, none]) (st' := [.ref s0, .ref s0]) bf267_19 bf267_20 rfl rfl).trans ?_
  exact bkS bf267_20 bf267_23 rfl (by decide +kernel) (Nat.le_of_ble_eq_true rfl) rfl (bhd rfl)
theorem bk267_23 {w : am_Wd} {l0 : Nat} {l1 : Nat} {l2 : Nat} {s0 : Nat} : am_run 267 23 [some (.ref l0), some (.ref l1), some (.ref l2), none, none, none, none, none] [.ref s0] w = am_run 267 27 [some (.ref l0), some (.ref l1), some (.ref l2), some (.ref s0), some (.int (nI 0)), none, none, none] [] w := by
  refine (bu (ls'' := [some (.ref l0), some (.ref l1), some (.ref l2), some (.ref s0), none, none, none, none]) (st' := []) bf267_23 bf267_24 rfl rfl).trans ?_
  refine (bu (ls'' := [some (.ref l0), some (.ref l1), some (.ref l2), some (.ref s0), none, none, none, none]) (st' := [.int (nI 0)]) bf267_24 bf267_25 rfl rfl).trans ?_
  refine (bu (ls'' := [some (.ref l0), some (.ref l1), some (.ref l2), some (.ref s0), some (.int (nI 0)), none, none, none]) (st' := []) bf267_25 bf267_27 rfl rfl).trans ?_
  rfl
theorem bk267_27 {w : am_Wd} {l0 : Nat} {l1 : Nat} {l2 : Nat} {l3 : Nat} {l4 : Int32} : am_run 267 27 [some (.ref l0), some (.ref l1), some (.ref l2), some (.ref l3), some (.int l4), none, none, none] [] w = (am_len w l0).bind fun v => am_run 267 31 [some (.ref l0), some (.ref l1), some (.ref l2), some (.ref l3), some (.int l4), none, none, none] (.int (nI v) :: [.int l4]) w := by
  refine (bu (ls'' := [some (.ref l0), some (.ref l1), some (.ref l2), some (.ref l3), some (.int l4), none, none, none]) (st' := [.int l4]) bf267_27 bf267_29 rfl rfl).trans ?_
  refine (bu (ls'' := [some (.ref l0), some (.ref l1), some (.ref l2), some (.ref l3), some (.int l4), none, none, none]) (st' := [.ref l0, .int l4]) bf267_29 bf267_30 rfl rfl).trans ?_
  exact bh bf267_30 bf267_31 rfl (fun _ _ => am_ge_rf w) rfl
theorem bk267_31 {w : am_Wd} {l0 : Nat} {l1 : Nat} {l2 : Nat} {l3 : Nat} {l4 : Int32} {s0 : Int32} {s1 : Int32} : am_run 267 31 [some (.ref l0), some (.ref l1), some (.ref l2), some (.ref l3), some (.int l4), none, none, none] [.int s0, .int s1] w = if (s0 - (nI 5)) < s1 then am_run 267 1438 [none, none, none, none, none, none, none, none] [] w else am_run 267 36 [some (.ref l0), some (.ref l1), some (.ref l2), some (.ref l3), some (.int l4), none, none, none] [] w := by
  refine (bu (ls'' := [some (.ref l0), some (.ref l1), some (.ref l2), some (.ref l3), some (.int l4), none, none, none]) (st' := [.int (nI 5), .int s0, .int s1]) bf267_31 bf267_32 rfl rfl).trans ?_
  refine (bu (ls'' := [some (.ref l0), some (.ref l1), some (.ref l2), some (.ref l3), some (.int l4), none, none, none]) (st' := [.int (s0 - (nI 5)), .int s1]) bf267_32 bf267_33 rfl rfl).trans ?_
  exact bic bf267_33 rfl bf267_1438 bf267_36 rfl rfl rfl
theorem bk267_1438 {w : am_Wd}  : am_run 267 1438 [none, none, none, none, none, none, none, none] [] w = some (.inl (some (.int (nI 1))), w) := by
  refine (bu (ls'' := [none, none, none, none, none, none, none, none]) (st' := [.int (nI 1)]) bf267_1438 bf267_1439 rfl rfl).trans ?_
  exact am_e2 bf267_1439 rfl (am_ge_rf w)
theorem bk267_36 {w : am_Wd} {l0 : Nat} {l1 : Nat} {l2 : Nat} {l3 : Nat} {l4 : Int32} : am_run 267 36 [some (.ref l0), some (.ref l1), some (.ref l2), some (.ref l3), some (.int l4), none, none, none] [] w = (am_ri 0 w l0 l4).bind fun v => am_run 267 40 [some (.ref l0), some (.ref l1), some (.ref l2), some (.ref l3), some (.int l4), none, none, none] (.int v :: []) w := by
  refine (bu (ls'' := [some (.ref l0), some (.ref l1), some (.ref l2), some (.ref l3), some (.int l4), none, none, none]) (st' := [.ref l0]) bf267_36 bf267_37 rfl rfl).trans ?_
  refine (bu (ls'' := [some (.ref l0), some (.ref l1), some (.ref l2), some (.ref l3), some (.int l4), none, none, none]) (st' := [.int l4, .ref l0]) bf267_37 bf267_39 rfl rfl).trans ?_
  exact bh bf267_39 bf267_40 rfl (fun _ _ => am_ge_rf w) rfl
theorem bk267_40 {w : am_Wd} {l0 : Nat} {l1 : Nat} {l2 : Nat} {l3 : Nat} {l4 : Int32} {s0 : Int32} : am_run 267 40 [some (.ref l0), some (.ref l1), some (.ref l2), some (.ref l3), some (.int l4), none, none, none] [.int s0] w = if (s0 &&& (nI 31)) = (nI 0) then am_run 267 172 [some (.ref l0), some (.ref l1), some (.ref l2), some (.ref l3), some (.int l4), none, none, none] [] w else if (s0 &&& (nI 31)) = (nI 1) then am_run 267 236 [some (.ref l0), some (.ref l1), some (.ref l2), some (.ref l3), some (.int l4), none, none, none] [] w else if (s0 &&& (nI 31)) = (nI 2) then am_run 267 264 [some (.ref l0), some (.ref l1), some (.ref l2), some (.ref l3), some (.int l4), none, none, none] [] w else if (s0 &&& (nI 31)) = (nI 3) then am_run 267 348 [some (.ref l0), some (.ref l1), some (.ref l2), some (.ref l3), some (.int l4), none, none, none] [] w else if (s0 &&& (nI 31)) = (nI 4) then am_run 267 428 [some (.ref l0), some (.ref l1), some (.ref l2), some (.ref l3), some (.int l4), none, none, none] [] w else if (s0 &&& (nI 31)) = (nI 5) then am_run 267 484 [some (.ref l0), some (.ref l1), some (.ref l2), some (.ref l3), some (.int l4), none, none, none] [] w else if (s0 &&& (nI 31)) = (nI 6) then am_run 267 568 [some (.ref l0), some (.ref l1), some (.ref l2), some (.ref l3), some (.int l4), none, none, none] [] w else if (s0 &&& (nI 31)) = (nI 7) then am_run 267 624 [some (.ref l0), some (.ref l1), some (.ref l2), some (.ref l3), some (.int l4), none, none, none] [] w else if (s0 &&& (nI 31)) = (nI 8) then am_run 267 680 [some (.ref l0), some (.ref l1), some (.ref l2), some (.ref l3), some (.int l4), none, none, none] [] w else if (s0 &&& (nI 31)) = (nI 9) then am_run 267 720 [some (.ref l0), some (.ref l1), some (.ref l2), some (.ref l3), some (.int l4), none, none, none] [] w else if (s0 &&& (nI 31)) = (nI 10) then am_run 267 748 [some (.ref l0), some (.ref l1), some (.ref l2), some (.ref l3), some (.int l4), none, none, none] [] w else if (s0 &&& (nI 31)) = (nI 11) then am_run 267 788 [some (.ref l0), some (.ref l1), some (.ref l2), some (.ref l3), some (.int l4), none, none, none] [] w else if (s0 &&& (nI 31)) = (nI 12) then am_run 267 816 [some (.ref l0), some (.ref l1), some (.ref l2), some (.ref l3), some (.int l4), none, none, none] [] w else if (s0 &&& (nI 31)) = (nI 13) then am_run 267 829 [some (.ref l0), some (.ref l1), some (.ref l2), some (.ref l3), some (.int l4), none, none, none] [] w else if (s0 &&& (nI 31)) = (nI 14) then am_run 267 881 [some (.ref l0), some (.ref l1), some (.ref l2), some (.ref l3), some (.int l4), none, none, none] [] w else if (s0 &&& (nI 31)) = (nI 15) then am_run 267 921 [some (.ref l0), some (.ref l1), some (.ref l2), some (.ref l3), some (.int l4), none, none, none] [] w else if (s0 &&& (nI 31)) = (nI 16) then am_run 267 949 [some (.ref l0), some (.ref l1), some (.ref l2), some (.ref l3), some (.int l4), none, none, none] [] w else if (s0 &&& (nI 31)) = (nI 17) then am_run 267 977 [some (.ref l0), some (.ref l1), some (.ref l2), some (.ref l3), some (.int l4), none, none, none] [] w else if (s0 &&& (nI 31)) = (nI 18) then am_run 267 1029 [some (.ref l0), some (.ref l1), some (.ref l2), some (.ref l3), some (.int l4), none, none, none] [] w else if (s0 &&& (nI 31)) = (nI 19) then am_run 267 1069 [some (.ref l0), some (.ref l1), some (.ref l2), some (.ref l3), some (.int l4), none, none, none] [] w else if (s0 &&& (nI 31)) = (nI 20) then am_run 267 1109 [some (.ref l0), some (.ref l1), some (.ref l2), some (.ref l3), some (.int l4), none, none, none] [] w else if (s0 &&& (nI 31)) = (nI 21) then am_run 267 1161 [some (.ref l0), some (.ref l1), some (.ref l2), some (.ref l3), some (.int l4), none, none, none] [] w else if (s0 &&& (nI 31)) = (nI 22) then am_run 267 1201 [some (.ref l0), some (.ref l1), some (.ref l2), some (.ref l3), some (.int l4), none, none, none] [] w else if (s0 &&& (nI 31)) = (nI 23) then am_run 267 1229 [some (.ref l0), some (.ref l1), some (.ref l2), some (.ref l3), some (.int l4), none, none, none] [] w else if (s0 &&& (nI 31)) = (nI 24) then am_run 267 1269 [some (.ref l0), some (.ref l1), some (.ref l2), some (.ref l3), some (.int l4), none, none, none] [] w else if (s0 &&& (nI 31)) = (nI 25) then am_run 267 1297 [some (.ref l0), some (.ref l1), some (.ref l2), some (.ref l3), some (.int l4), none, none, none] [] w else if (s0 &&& (nI 31)) = (nI 26) then am_run 267 1337 [some (.ref l0), some (.ref l1), some (.ref l2), some (.ref l3), some (.int l4), none, none, none] [] w else if (s0 &&& (nI 31)) = (nI 27) then am_run 267 1406 [some (.ref l0), some (.ref l1), some (.ref l2), some (.ref l3), some (.int l4), none, none, none] [] w else if (s0 &&& (nI 31)) = (nI 28) then am_run 267 1419 [some (.ref l0), some (.ref l1), some (.ref l2), some (.ref l3), some (.int l4), none, none, none] [] w else am_run 267 1432 [some (.ref l0), some (.ref l1), some (.ref l2), some (.ref l3), some (.int l4), none, none, none] [] w := by
  refine (bu (ls'' := [some (.ref l0), some (.ref l1), some (.ref l2), some (.ref l3), some (.int l4), none, none, none]) (st' := [.int (nI 31), .int s0]) bf267_40 bf267_42 rfl rfl).trans ?_
  refine (bu (ls'' := [some (.ref l0), some (.ref l1), some (.ref l2), some (.ref l3), some (.int l4), none, none, none]) (st' := [.int (s0 &&& (nI 31))]) bf267_42 bf267_43 rfl rfl).trans ?_
  refine bsw (fun q => ?_) (fun q0 => ?_)
  · exact bu (ls' := [some (.ref l0), some (.ref l1), some (.ref l2), some (.ref l3), some (.int l4), none, none, none]) (ls'' := [some (.ref l0), some (.ref l1), some (.ref l2), some (.ref l3), some (.int l4), none, none, none]) (st' := []) bf267_43 bf267_172 (by rw [q]; rfl) rfl
  refine bsw (fun q => ?_) (fun q1 => ?_)
  · exact bu (ls' := [some (.ref l0), some (.ref l1), some (.ref l2), some (.ref l3), some (.int l4), none, none, none]) (ls'' := [some (.ref l0), some (.ref l1), some (.ref l2), some (.ref l3), some (.int l4), none, none, none]) (st' := []) bf267_43 bf267_236 (by rw [q]; rfl) rfl
  refine bsw (fun q => ?_) (fun q2 => ?_)
  · exact bu (ls' := [some (.ref l0), some (.ref l1), some (.ref l2), some (.ref l3), some (.int l4), none, none, none]) (ls'' := [some (.ref l0), some (.ref l1), some (.ref l2), some (.ref l3), some (.int l4), none, none, none]) (st' := []) bf267_43 bf267_264 (by rw [q]; rfl) rfl
  refine bsw (fun q => ?_) (fun q3 => ?_)
  · exact bu (ls' := [some (.ref l0), some (.ref l1), some (.ref l2), some (.ref l3), some (.int l4), none, none, none]) (ls'' := [some (.ref l0), some (.ref l1), some (.ref l2), some (.ref l3), some (.int l4), none, none, none]) (st' := []) bf267_43 bf267_348 (by rw [q]; rfl) rfl
  refine bsw (fun q => ?_) (fun q4 => ?_)
  · exact bu (ls' := [some (.ref l0), some (.ref l1), some (.ref l2), some (.ref l3), some (.int l4), none, none, none]) (ls'' := [some (.ref l0), some (.ref l1), some (.ref l2), some (.ref l3), some (.int l4), none, none, none]) (st' := []) bf267_43 bf267_428 (by rw [q]; rfl) rfl
  refine bsw (fun q => ?_) (fun q5 => ?_)
  · exact bu (ls' := [some (.ref l0), some (.ref l1), some (.ref l2), some (.ref l3), some (.int l4), none, none, none]) (ls'' := [some (.ref l0), some (.ref l1), some (.ref l2), some (.ref l3), some (.int l4), none, none, none]) (st' := []) bf267_43 bf267_484 (by rw [q]; rfl) rfl
  refine bsw (fun q => ?_) (fun q6 => ?_)
  · exact bu (ls' := [some (.ref l0), some (.ref l1), some (.ref l2), some (.ref l3), some (.int l4), none, none, none]) (ls'' := [some (.ref l0), some (.ref l1), some (.ref l2), some (.ref l3), some (.int l4), none, none, none]) (st' := []) bf267_43 bf267_568 (by rw [q]; rfl) rfl
  refine bsw (fun q => ?_) (fun q7 => ?_)
  · exact bu (ls' := [some (.ref l0), some (.ref l1), some (.ref l2), some (.ref l3), some (.int l4), none, none, none]) (ls'' := [some (.ref l0), some (.ref l1), some (.ref l2), some (.ref l3), some (.int l4), none, none, none]) (st' := []) bf267_43 bf267_624 (by rw [q]; rfl) rfl
  refine bsw (fun q => ?_) (fun q8 => ?_)
  · exact bu (ls' := [some (.ref l0), some (.ref l1), some (.ref l2), some (.ref l3), some (.int l4), none, none, none]) (ls'' := [some (.ref l0), some (.ref l1), some (.ref l2), some (.ref l3), some (.int l4), none, none, none]) (st' := []) bf267_43 bf267_680 (by rw [q]; rfl) rfl
  refine bsw (fun q => ?_) (fun q9 => ?_)
  · exact bu (ls' := [some (.ref l0), some (.ref l1), some (.ref l2), some (.ref l3), some (.int l4), none, none, none]) (ls'' := [some (.ref l0), some (.ref l1), some (.ref l2), some (.ref l3), some (.int l4), none, none, none]) (st' := []) bf267_43 bf267_720 (by rw [q]; rfl) rfl
  refine bsw (fun q => ?_) (fun q10 => ?_)
  · exact bu (ls' := [some (.ref l0), some (.ref l1), some (.ref l2), some (.ref l3), some (.int l4), none, none, none]) (ls'' := [some (.ref l0), some (.ref l1), some (.ref l2), some (.ref l3), some (.int l4), none, none, none]) (st' := []) bf267_43 bf267_748 (by rw [q]; rfl) rfl
  refine bsw (fun q => ?_) (fun q11 => ?_)
  · exact bu (ls' := [some (.ref l0), some (.ref l1), some (.ref l2), some (.ref l3), some (.int l4), none, none, none]) (ls'' := [some (.ref l0), some (.ref l1), some (.ref l2), some (.ref l3), some (.int l4), none, none, none]) (st' := []) bf267_43 bf267_788 (by rw [q]; rfl) rfl
  refine bsw (fun q => ?_) (fun q12 => ?_)
  · exact bu (ls' := [some (.ref l0), some (.ref l1), some (.ref l2), some (.ref l3), some (.int l4), none, none, none]) (ls'' := [some (.ref l0), some (.ref l1), some (.ref l2), some (.ref l3), some (.int l4), none, none, none]) (st' := []) bf267_43 bf267_816 (by rw [q]; rfl) rfl
  refine bsw (fun q => ?_) (fun q13 => ?_)
  · exact bu (ls' := [some (.ref l0), some (.ref l1), some (.ref l2), some (.ref l3), some (.int l4), none, none, none]) (ls'' := [some (.ref l0), some (.ref l1), some (.ref l2), some (.ref l3), some (.int l4), none, none, none]) (st' := []) bf267_43 bf267_829 (by rw [q]; rfl) rfl
  refine bsw (fun q => ?_) (fun q14 => ?_)
  · exact bu (ls' := [some (.ref l0), some (.ref l1), some (.ref l2), some (.ref l3), some (.int l4), none, none, none]) (ls'' := [some (.ref l0), some (.ref l1), some (.ref l2), some (.ref l3), some (.int l4), none, none, none]) (st' := []) bf267_43 bf267_881 (by rw [q]; rfl) rfl
  refine bsw (fun q => ?_) (fun q15 => ?_)
  · exact bu (ls' := [some (.ref l0), some (.ref l1), some (.ref l2), some (.ref l3), some (.int l4), none, none, none]) (ls'' := [some (.ref l0), some (.ref l1), some (.ref l2), some (.ref l3), some (.int l4), none, none, none]) (st' := []) bf267_43 bf267_921 (by rw [q]; rfl) rfl
  refine bsw (fun q => ?_) (fun q16 => ?_)
  · exact bu (ls' := [some (.ref l0), some (.ref l1), some (.ref l2), some (.ref l3), some (.int l4), none, none, none]) (ls'' := [some (.ref l0), some (.ref l1), some (.ref l2), some (.ref l3), some (.int l4), none, none, none]) (st' := []) bf267_43 bf267_949 (by rw [q]; rfl) rfl
  refine bsw (fun q => ?_) (fun q17 => ?_)
  · exact bu (ls' := [some (.ref l0), some (.ref l1), some (.ref l2), some (.ref l3), some (.int l4), none, none, none]) (ls'' := [some (.ref l0), some (.ref l1), some (.ref l2), some (.ref l3), some (.int l4), none, none, none]) (st' := []) bf267_43 bf267_977 (by rw [q]; rfl) rfl
  refine bsw (fun q => ?_) (fun q18 => ?_)
  · exact bu (ls' := [some (.ref l0), some (.ref l1), some (.ref l2), some (.ref l3), some (.int l4), none, none, none]) (ls'' := [some (.ref l0), some (.ref l1), some (.ref l2), some (.ref l3), some (.int l4), none, none, none]) (st' := []) bf267_43 bf267_1029 (by rw [q]; rfl) rfl
  refine bsw (fun q => ?_) (fun q19 => ?_)
  · exact bu (ls' := [some (.ref l0), some (.ref l1), some (.ref l2), some (.ref l3), some (.int l4), none, none, none]) (ls'' := [some (.ref l0), some (.ref l1), some (.ref l2), some (.ref l3), some (.int l4), none, none, none]) (st' := []) bf267_43 bf267_1069 (by rw [q]; rfl) rfl
  refine bsw (fun q => ?_) (fun q20 => ?_)
  · exact bu (ls' := [some (.ref l0), some (.ref l1), some (.ref l2), some (.ref l3), some (.int l4), none, none, none]) (ls'' := [some (.ref l0), some (.ref l1), some (.ref l2), some (.ref l3), some (.int l4), none, none, none]) (st' := []) bf267_43 bf267_1109 (by rw [q]; rfl) rfl
  refine bsw (fun q => ?_) (fun q21 => ?_)
  · exact bu (ls' := [some (.ref l0), some (.ref l1), some (.ref l2), some (.ref l3), some (.int l4), none, none, none]) (ls'' := [some (.ref l0), some (.ref l1), some (.ref l2), some (.ref l3), some (.int l4), none, none, none]) (st' := []) bf267_43 bf267_1161 (by rw [q]; rfl) rfl
  refine bsw (fun q => ?_) (fun q22 => ?_)
  · exact bu (ls' := [some (.ref l0), some (.ref l1), some (.ref l2), some (.ref l3), some (.int l4), none, none, none]) (ls'' := [some (.ref l0), some (.ref l1), some (.ref l2), some (.ref l3), some (.int l4), none, none, none]) (st' := []) bf267_43 bf267_1201 (by rw [q]; rfl) rfl
  refine bsw (fun q => ?_) (fun q23 => ?_)
  · exact bu (ls' := [some (.ref l0), some (.ref l1), some (.ref l2), some (.ref l3), some (.int l4), none, none, none]) (ls'' := [some (.ref l0), some (.ref l1), some (.ref l2), some (.ref l3), some (.int l4), none, none, none]) (st' := []) bf267_43 bf267_1229 (by rw [q]; rfl) rfl
  refine bsw (fun q => ?_) (fun q24 => ?_)
  · exact bu (ls' := [some (.ref l0), some (.ref l1), some (.ref l2), some (.ref l3), some (.int l4), none, none, none]) (ls'' := [some (.ref l0), some (.ref l1), some (.ref l2), some (.ref l3), some (.int l4), none, none, none]) (st' := []) bf267_43 bf267_1269 (by rw [q]; rfl) rfl
  refine bsw (fun q => ?_) (fun q25 => ?_)
  · exact bu (ls' := [some (.ref l0), some (.ref l1), some (.ref l2), some (.ref l3), some (.int l4), none, none, none]) (ls'' := [some (.ref l0), some (.ref l1), some (.ref l2), some (.ref l3), some (.int l4), none, none, none]) (st' := []) bf267_43 bf267_1297 (by rw [q]; rfl) rfl
  refine bsw (fun q => ?_) (fun q26 => ?_)
  · exact bu (ls' := [some (.ref l0), some (.ref l1), some (.ref l2), some (.ref l3), some (.int l4), none, none, none]) (ls'' := [some (.ref l0), some (.ref l1), some (.ref l2), some (.ref l3), some (.int l4), none, none, none]) (st' := []) bf267_43 bf267_1337 (by rw [q]; rfl) rfl
  refine bsw (fun q => ?_) (fun q27 => ?_)
  · exact bu (ls' := [some (.ref l0), some (.ref l1), some (.ref l2), some (.ref l3), some (.int l4), none, none, none]) (ls'' := [some (.ref l0), some (.ref l1), some (.ref l2), some (.ref l3), some (.int l4), none, none, none]) (st' := []) bf267_43 bf267_1406 (by rw [q]; rfl) rfl
  refine bsw (fun q => ?_) (fun q28 => ?_)
  · exact bu (ls' := [some (.ref l0), some (.ref l1), some (.ref l2), some (.ref l3), some (.int l4), none, none, none]) (ls'' := [some (.ref l0), some (.ref l1), some (.ref l2), some (.ref l3), some (.int l4), none, none, none]) (st' := []) bf267_43 bf267_1419 (by rw [q]; rfl) rfl
  exact bsd bf267_43 bf267_1432 rfl rfl (bcon (by rfl) q0 (bcon (by rfl) q1 (bcon (by rfl) q2 (bcon (by rfl) q3 (bcon (by rfl) q4 (bcon (by rfl) q5 (bcon (by rfl) q6 (bcon (by rfl) q7 (bcon (by rfl) q8 (bcon (by rfl) q9 (bcon (by rfl) q10 (bcon (by rfl) q11 (bcon (by rfl) q12 (bcon (by rfl) q13 (bcon (by rfl) q14 (bcon (by rfl) q15 (bcon (by rfl) q16 (bcon (by rfl) q17 (bcon (by rfl) q18 (bcon (by rfl) q19 (bcon (by rfl) q20 (bcon (by rfl) q21 (bcon (by rfl) q22 (bcon (by rfl) q23 (bcon (by rfl) q24 (bcon (by rfl) q25 (bcon (by rfl) q26 (bcon (by rfl) q27 (bcon (by rfl) q28 (bnil)))))))))))))))))))))))))))))) rfl
theorem bk267_172 {w : am_Wd} {l0 : Nat} {l1 : Nat} {l2 : Nat} {l3 : Nat} {l4 : Int32} : am_run 267 172 [some (.ref l0), some (.ref l1), some (.ref l2), some (.ref l3), some (.int l4), none, none, none] [] w = (am_ri 0 w l0 (l4 + (nI 1))).bind fun v => am_run 267 179 [some (.ref l0), some (.ref l1), some (.ref l2), some (.ref l3), some (.int l4), none, none, none] (.int v :: [.ref l1]) w := by
  refine (bu (ls'' := [some (.ref l0), some (.ref l1), some (.ref l2), some (.ref l3), some (.int l4), none, none, none]) (st' := [.ref l1]) bf267_172 bf267_173 rfl rfl).trans ?_
  refine (bu (ls'' := [some (.ref l0), some (.ref l1), some (.ref l2), some (.ref l3), some (.int l4), none, none, none]) (st' := [.ref l0, .ref l1]) bf267_173 bf267_174 rfl rfl).trans ?_
  refine (bu (ls'' := [some (.ref l0), some (.ref l1), some (.ref l2), some (.ref l3), some (.int l4), none, none, none]) (st' := [.int l4, .ref l0, .ref l1]) bf267_174 bf267_176 rfl rfl).trans ?_
  refine (bu (ls'' := [some (.ref l0), some (.ref l1), some (.ref l2), some (.ref l3), some (.int l4), none, none, none]) (st' := [.int (nI 1), .int l4, .ref l0, .ref l1]) bf267_176 bf267_177 rfl rfl).trans ?_
  refine (bu (ls'' := [some (.ref l0), some (.ref l1), some (.ref l2), some (.ref l3), some (.int l4), none, none, none]) (st' := [.int (l4 + (nI 1)), .ref l0, .ref l1]) bf267_177 bf267_178 rfl rfl).trans ?_
  exact bh bf267_178 bf267_179 rfl (fun _ _ => am_ge_rf w) rfl
theorem bk267_236 {w : am_Wd} {l0 : Nat} {l1 : Nat} {l2 : Nat} {l3 : Nat} {l4 : Int32} : am_run 267 236 [some (.ref l0), some (.ref l1), some (.ref l2), some (.ref l3), some (.int l4), none, none, none] [] w = (am_ri 0 w l0 (l4 + (nI 1))).bind fun v => am_run 267 243 [some (.ref l0), some (.ref l1), some (.ref l2), some (.ref l3), some (.int l4), none, none, none] (.int v :: [.ref l1]) w := by
  refine (bu (ls'' := [some (.ref l0), some (.ref l1), some (.ref l2), some (.ref l3), some (.int l4), none, none, none]) (st' := [.ref l1]) bf267_236 bf267_237 rfl rfl).trans ?_
  refine (bu (ls'' := [some (.ref l0), some (.ref l1), some (.ref l2), some (.ref l3), some (.int l4), none, none, none]) (st' := [.ref l0, .ref l1]) bf267_237 bf267_238 rfl rfl).trans ?_
  refine (bu (ls'' := [some (.ref l0), some (.ref l1), some (.ref l2), some (.ref l3), some (.int l4), none, none, none]) (st' := [.int l4, .ref l0, .ref l1]) bf267_238 bf267_240 rfl rfl).trans ?_
  refine (bu (ls'' := [some (.ref l0), some (.ref l1), some (.ref l2), some (.ref l3), some (.int l4), none, none, none]) (st' := [.int (nI 1), .int l4, .ref l0, .ref l1]) bf267_240 bf267_241 rfl rfl).trans ?_
  refine (bu (ls'' := [some (.ref l0), some (.ref l1), some (.ref l2), some (.ref l3), some (.int l4), none, none, none]) (st' := [.int (l4 + (nI 1)), .ref l0, .ref l1]) bf267_241 bf267_242 rfl rfl).trans ?_
  exact bh bf267_242 bf267_243 rfl (fun _ _ => am_ge_rf w) rfl
theorem bk267_264 {w : am_Wd} {l0 : Nat} {l1 : Nat} {l2 : Nat} {l3 : Nat} {l4 : Int32} : am_run 267 264 [some (.ref l0), some (.ref l1), some (.ref l2), some (.ref l3), some (.int l4), none, none, none] [] w = (am_ri 0 w l0 (l4 + (nI 1))).bind fun v => am_run 267 271 [some (.ref l0), some (.ref l1), some (.ref l2), some (.ref l3), some (.int l4), none, none, none] (.int v :: [.ref l1]) w := by
  refine (bu (ls'' := [some (.ref l0), some (.ref l1), some (.ref l2), some (.ref l3), some (.int l4), none, none, none]) (st' := [.ref l1]) bf267_264 bf267_265 rfl rfl).trans ?_
  refine (bu (ls'' := [some (.ref l0), some (.ref l1), some (.ref l2), some (.ref l3), some (.int l4), none, none, none]) (st' := [.ref l0, .ref l1]) bf267_265 bf267_266 rfl rfl).trans ?_
  refine (bu (ls'' := [some (.ref l0), some (.ref l1), some (.ref l2), some (.ref l3), some (.int l4), none, none, none]) (st' := [.int l4, .ref l0, .ref l1]) bf267_266 bf267_268 rfl rfl).trans ?_
  refine (bu (ls'' := [some (.ref l0), some (.ref l1), some (.ref l2), some (.ref l3), some (.int l4), none, none, none]) (st' := [.int (nI 1), .int l4, .ref l0, .ref l1]) bf267_268 bf267_269 rfl rfl).trans ?_
  refine (bu (ls'' := [some (.ref l0), some (.ref l1), some (.ref l2), some (.ref l3), some (.int l4), none, none, none]) (st' := [.int (l4 + (nI 1)), .ref l0, .ref l1]) bf267_269 bf267_270 rfl rfl).trans ?_
  exact bh bf267_270 bf267_271 rfl (fun _ _ => am_ge_rf w) rfl
theorem bk267_348 {w : am_Wd} {l0 : Nat} {l1 : Nat} {l2 : Nat} {l3 : Nat} {l4 : Int32} : am_run 267 348 [some (.ref l0), some (.ref l1), some (.ref l2), some (.ref l3), some (.int l4), none, none, none] [] w = (am_ri 0 w l0 (l4 + (nI 1))).bind fun v => am_run 267 355 [some (.ref l0), some (.ref l1), some (.ref l2), some (.ref l3), some (.int l4), none, none, none] (.int v :: [.ref l1]) w := by
  refine (bu (ls'' := [some (.ref l0), some (.ref l1), some (.ref l2), some (.ref l3), some (.int l4), none, none, none]) (st' := [.ref l1]) bf267_348 bf267_349 rfl rfl).trans ?_
  refine (bu (ls'' := [some (.ref l0), some (.ref l1), some (.ref l2), some (.ref l3), some (.int l4), none, none, none]) (st' := [.ref l0, .ref l1]) bf267_349 bf267_350 rfl rfl).trans ?_
  refine (bu (ls'' := [some (.ref l0), some (.ref l1), some (.ref l2), some (.ref l3), some (.int l4), none, none, none]) (st' := [.int l4, .ref l0, .ref l1]) bf267_350 bf267_352 rfl rfl).trans ?_
  refine (bu (ls'' := [some (.ref l0), some (.ref l1), some (.ref l2), some (.ref l3), some (.int l4), none, none, none]) (st' := [.int (nI 1), .int l4, .ref l0, .ref l1]) bf267_352 bf267_353 rfl rfl).trans ?_
  refine (bu (ls'' := [some (.ref l0), some (.ref l1), some (.ref l2), some (.ref l3), some (.int l4), none, none, none]) (st' := [.int (l4 + (nI 1)), .ref l0, .ref l1]) bf267_353 bf267_354 rfl rfl).trans ?_
  exact bh bf267_354 bf267_355 rfl (fun _ _ => am_ge_rf w) rfl
theorem bk267_428 {w : am_Wd} {l0 : Nat} {l1 : Nat} {l2 : Nat} {l3 : Nat} {l4 : Int32} : am_run 267 428 [some (.ref l0), some (.ref l1), some (.ref l2), some (.ref l3), some (.int l4), none, none, none] [] w = (am_ri 0 w l0 (l4 + (nI 1))).bind fun v => am_run 267 435 [some (.ref l0), some (.ref l1), some (.ref l2), some (.ref l3), some (.int l4), none, none, none] (.int v :: [.ref l1]) w := by
  refine (bu (ls'' := [some (.ref l0), some (.ref l1), some (.ref l2), some (.ref l3), some (.int l4), none, none, none]) (st' := [.ref l1]) bf267_428 bf267_429 rfl rfl).trans ?_
  refine (bu (ls'' := [some (.ref l0), some (.ref l1), some (.ref l2), some (.ref l3), some (.int l4), none, none, none]) (st' := [.ref l0, .ref l1]) bf267_429 bf267_430 rfl rfl).trans ?_
  refine (bu (ls'' := [some (.ref l0), some (.ref l1), some (.ref l2), some (.ref l3), some (.int l4), none, none, none]) (st' := [.int l4, .ref l0, .ref l1]) bf267_430 bf267_432 rfl rfl).trans ?_
  refine (bu (ls'' := [some (.ref l0), some (.ref l1), some (.ref l2), some (.ref l3), some (.int l4), none, none, none]) (st' := [.int (nI 1), .int l4, .ref l0, .ref l1]) bf267_432 bf267_433 rfl rfl).trans ?_
  refine (bu (ls'' := [some (.ref l0), some (.ref l1), some (.ref l2), some (.ref l3), some (.int l4), none, none, none]) (st' := [.int (l4 + (nI 1)), .ref l0, .ref l1]) bf267_433 bf267_434 rfl rfl).trans ?_
  exact bh bf267_434 bf267_435 rfl (fun _ _ => am_ge_rf w) rfl
theorem bk267_484 {w : am_Wd} {l0 : Nat} {l1 : Nat} {l2 : Nat} {l3 : Nat} {l4 : Int32} : am_run 267 484 [some (.ref l0), some (.ref l1), some (.ref l2), some (.ref l3), some (.int l4), none, none, none] [] w = (am_ri 0 w l0 (l4 + (nI 1))).bind fun v => am_run 267 491 [some (.ref l0), some (.ref l1), some (.ref l2), some (.ref l3), some (.int l4), none, none, none] (.int v :: [.ref l1]) w := by
  refine (bu (ls'' := [some (.ref l0), some (.ref l1), some (.ref l2), some (.ref l3), some (.int l4), none, none, none]) (st' := [.ref l1]) bf267_484 bf267_485 rfl rfl).trans ?_
  refine (bu (ls'' := [some (.ref l0), some (.ref l1), some (.ref l2), some (.ref l3), some (.int l4), none, none, none]) (st' := [.ref l0, .ref l1]) bf267_485 bf267_486 rfl rfl).trans ?_
  refine (bu (ls'' := [some (.ref l0), some (.ref l1), some (.ref l2), some (.ref l3), some (.int l4), none, none, none]) (st' := [.int l4, .ref l0, .ref l1]) bf267_486 bf267_488 rfl rfl).trans ?_
  refine (bu (ls'' := [some (.ref l0), some (.ref l1), some (.ref l2), some (.ref l3), some (.int l4), none, none, none]) (st' := [.int (nI 1), .int l4, .ref l0, .ref l1]) bf267_488 bf267_489 rfl rfl).trans ?_
  refine (bu (ls'' := [some (.ref l0), some (.ref l1), some (.ref l2), some (.ref l3), some (.int l4), none, none, none]) (st' := [.int (l4 + (nI 1)), .ref l0, .ref l1]) bf267_489 bf267_490 rfl rfl).trans ?_
  exact bh bf267_490 bf267_491 rfl (fun _ _ => am_ge_rf w) rfl
theorem bk267_568 {w : am_Wd} {l0 : Nat} {l1 : Nat} {l2 : Nat} {l3 : Nat} {l4 : Int32} : am_run 267 568 [some (.ref l0), some (.ref l1), some (.ref l2), some (.ref l3), some (.int l4), none, none, none] [] w = (am_ri 0 w l0 (l4 + (nI 1))).bind fun v => am_run 267 575 [some (.ref l0), some (.ref l1), some (.ref l2), some (.ref l3), some (.int l4), none, none, none] (.int v :: [.ref l1]) w := by
  refine (bu (ls'' := [some (.ref l0), some (.ref l1), some (.ref l2), some (.ref l3), some (.int l4), none, none, none]) (st' := [.ref l1]) bf267_568 bf267_569 rfl rfl).trans ?_
  refine (bu (ls'' := [some (.ref l0), some (.ref l1), some (.ref l2), some (.ref l3), some (.int l4), none, none, none]) (st' := [.ref l0, .ref l1]) bf267_569 bf267_570 rfl rfl).trans ?_
  refine (bu (ls'' := [some (.ref l0), some (.ref l1), some (.ref l2), some (.ref l3), some (.int l4), none, none, none]) (st' := [.int l4, .ref l0, .ref l1]) bf267_570 bf267_572 rfl rfl).trans ?_
  refine (bu (ls'' := [some (.ref l0), some (.ref l1), some (.ref l2), some (.ref l3), some (.int l4), none, none, none]) (st' := [.int (nI 1), .int l4, .ref l0, .ref l1]) bf267_572 bf267_573 rfl rfl).trans ?_
  refine (bu (ls'' := [some (.ref l0), some (.ref l1), some (.ref l2), some (.ref l3), some (.int l4), none, none, none]) (st' := [.int (l4 + (nI 1)), .ref l0, .ref l1]) bf267_573 bf267_574 rfl rfl).trans ?_
  exact bh bf267_574 bf267_575 rfl (fun _ _ => am_ge_rf w) rfl
theorem bk267_624 {w : am_Wd} {l0 : Nat} {l1 : Nat} {l2 : Nat} {l3 : Nat} {l4 : Int32} : am_run 267 624 [some (.ref l0), some (.ref l1), some (.ref l2), some (.ref l3), some (.int l4), none, none, none] [] w = (am_ri 0 w l0 (l4 + (nI 1))).bind fun v => am_run 267 631 [some (.ref l0), some (.ref l1), some (.ref l2), some (.ref l3), some (.int l4), none, none, none] (.int v :: [.ref l1]) w := by
  refine (bu (ls'' := [some (.ref l0), some (.ref l1), some (.ref l2), some (.ref l3), some (.int l4), none, none, none]) (st' := [.ref l1]) bf267_624 bf267_625 rfl rfl).trans ?_
  refine (bu (ls'' := [some (.ref l0), some (.ref l1), some (.ref l2), some (.ref l3), some (.int l4), none, none, none]) (st' := [.ref l0, .ref l1]) bf267_625 bf267_626 rfl rfl).trans ?_
  refine (bu (ls'' := [some (.ref l0), some (.ref l1), some (.ref l2), some (.ref l3), some (.int l4), none, none, none]) (st' := [.int l4, .ref l0, .ref l1]) bf267_626 bf267_628 rfl rfl).trans ?_
  refine (bu (ls'' := [some (.ref l0), some (.ref l1), some (.ref l2), some (.ref l3), some (.int l4), none, none, none]) (st' := [.int (nI 1), .int l4, .ref l0, .ref l1]) bf267_628 bf267_629 rfl rfl).trans ?_
  refine (bu (ls'' := [some (.ref l0), some (.ref l1), some (.ref l2), some (.ref l3), some (.int l4), none, none, none]) (st' := [.int (l4 + (nI 1)), .ref l0, .ref l1]) bf267_629 bf267_630 rfl rfl).trans ?_
  exact bh bf267_630 bf267_631 rfl (fun _ _ => am_ge_rf w) rfl
theorem bk267_680 {w : am_Wd} {l0 : Nat} {l1 : Nat} {l2 : Nat} {l3 : Nat} {l4 : Int32} : am_run 267 680 [some (.ref l0), some (.ref l1), some (.ref l2), some (.ref l3), some (.int l4), none, none, none] [] w = (am_ri 0 w l0 (l4 + (nI 1))).bind fun v => am_run 267 687 [some (.ref l0), some (.ref l1), some (.ref l2), some (.ref l3), some (.int l4), none, none, none] (.int v :: [.ref l1]) w := by
  refine (bu (ls'' := [some (.ref l0), some (.ref l1), some (.ref l2), some (.ref l3), some (.int l4), none, none, none]) (st' := [.ref l1]) bf267_680 bf267_681 rfl rfl).trans ?_
  refine (bu (ls'' := [some (.ref l0), some (.ref l1), some (.ref l2), some (.ref l3), some (.int l4), none, none, none]) (st' := [.ref l0, .ref l1]) bf267_681 bf267_682 rfl rfl).trans ?_
  refine (bu (ls'' := [some (.ref l0), some (.ref l1), some (.ref l2), some (.ref l3), some (.int l4), none, none, none]) (st' := [.int l4, .ref l0, .ref l1]) bf267_682 bf267_684 rfl rfl).trans ?_
  refine (bu (ls'' := [some (.ref l0), some (.ref l1), some (.ref l2), some (.ref l3), some (.int l4), none, none, none]) (st' := [.int (nI 1), .int l4, .ref l0, .ref l1]) bf267_684 bf267_685 rfl rfl).trans ?_
  refine (bu (ls'' := [some (.ref l0), some (.ref l1), some (.ref l2), some (.ref l3), some (.int l4), none, none, none]) (st' := [.int (l4 + (nI 1)), .ref l0, .ref l1]) bf267_685 bf267_686 rfl rfl).trans ?_
  exact bh bf267_686 bf267_687 rfl (fun _ _ => am_ge_rf w) rfl
theorem bk267_720 {w : am_Wd} {l0 : Nat} {l1 : Nat} {l2 : Nat} {l3 : Nat} {l4 : Int32} : am_run 267 720 [some (.ref l0), some (.ref l1), some (.ref l2), some (.ref l3), some (.int l4), none, none, none] [] w = (am_ri 0 w l0 (l4 + (nI 1))).bind fun v => am_run 267 727 [some (.ref l0), some (.ref l1), some (.ref l2), some (.ref l3), some (.int l4), none, none, none] (.int v :: [.ref l1]) w := by
  refine (bu (ls'' := [some (.ref l0), some (.ref l1), some (.ref l2), some (.ref l3), some (.int l4), none, none, none]) (st' := [.ref l1]) bf267_720 bf267_721 rfl rfl).trans ?_
  refine (bu (ls'' := [some (.ref l0), some (.ref l1), some (.ref l2), some (.ref l3), some (.int l4), none, none, none]) (st' := [.ref l0, .ref l1]) bf267_721 bf267_722 rfl rfl).trans ?_
  refine (bu (ls'' := [some (.ref l0), some (.ref l1), some (.ref l2), some (.ref l3), some (.int l4), none, none, none]) (st' := [.int l4, .ref l0, .ref l1]) bf267_722 bf267_724 rfl rfl).trans ?_
  refine (bu (ls'' := [some (.ref l0), some (.ref l1), some (.ref l2), some (.ref l3), some (.int l4), none, none, none]) (st' := [.int (nI 1), .int l4, .ref l0, .ref l1]) bf267_724 bf267_725 rfl rfl).trans ?_
  refine (bu (ls'' := [some (.ref l0), some (.ref l1), some (.ref l2), some (.ref l3), some (.int l4), none, none, none]) (st' := [.int (l4 + (nI 1)), .ref l0, .ref l1]) bf267_725 bf267_726 rfl rfl).trans ?_
  exact bh bf267_726 bf267_727 rfl (fun _ _ => am_ge_rf w) rfl
theorem bk267_748 {w : am_Wd} {l0 : Nat} {l1 : Nat} {l2 : Nat} {l3 : Nat} {l4 : Int32} : am_run 267 748 [some (.ref l0), some (.ref l1), some (.ref l2), some (.ref l3), some (.int l4), none, none, none] [] w = (am_ri 0 w l0 (l4 + (nI 1))).bind fun v => am_run 267 755 [some (.ref l0), some (.ref l1), some (.ref l2), some (.ref l3), some (.int l4), none, none, none] (.int v :: [.ref l1]) w := by
  refine (bu (ls'' := [some (.ref l0), some (.ref l1), some (.ref l2), some (.ref l3), some (.int l4), none, none, none]) (st' := [.ref l1]) bf267_748 bf267_749 rfl rfl).trans ?_
  refine (bu (ls'' := [some (.ref l0), some (.ref l1), some (.ref l2), some (.ref l3), some (.int l4), none, none, none]) (st' := [.ref l0, .ref l1]) bf267_749 bf267_750 rfl rfl).trans ?_
  refine (bu (ls'' := [some (.ref l0), some (.ref l1), some (.ref l2), some (.ref l3), some (.int l4), none, none, none]) (st' := [.int l4, .ref l0, .ref l1]) bf267_750 bf267_752 rfl rfl).trans ?_
  refine (bu (ls'' := [some (.ref l0), some (.ref l1), some (.ref l2), some (.ref l3), some (.int l4), none, none, none]) (st' := [.int (nI 1), .int l4, .ref l0, .ref l1]) bf267_752 bf267_753 rfl rfl).trans ?_
  refine (bu (ls'' := [some (.ref l0), some (.ref l1), some (.ref l2), some (.ref l3), some (.int l4), none, none, none]) (st' := [.int (l4 + (nI 1)), .ref l0, .ref l1]) bf267_753 bf267_754 rfl rfl).trans ?_
  exact bh bf267_754 bf267_755 rfl (fun _ _ => am_ge_rf w) rfl
theorem bk267_788 {w : am_Wd} {l0 : Nat} {l1 : Nat} {l2 : Nat} {l3 : Nat} {l4 : Int32} : am_run 267 788 [some (.ref l0), some (.ref l1), some (.ref l2), some (.ref l3), some (.int l4), none, none, none] [] w = (am_ri 0 w l0 (l4 + (nI 1))).bind fun v => am_run 267 795 [some (.ref l0), some (.ref l1), some (.ref l2), some (.ref l3), some (.int l4), none, none, none] (.int v :: [.ref l1]) w := by
  refine (bu (ls'' := [some (.ref l0), some (.ref l1), some (.ref l2), some (.ref l3), some (.int l4), none, none, none]) (st' := [.ref l1]) bf267_788 bf267_789 rfl rfl).trans ?_
  refine (bu (ls'' := [some (.ref l0), some (.ref l1), some (.ref l2), some (.ref l3), some (.int l4), none, none, none]) (st' := [.ref l0, .ref l1]) bf267_789 bf267_790 rfl rfl).trans ?_
  refine (bu (ls'' := [some (.ref l0), some (.ref l1), some (.ref l2), some (.ref l3), some (.int l4), none, none, none]) (st' := [.int l4, .ref l0, .ref l1]) bf267_790 bf267_792 rfl rfl).trans ?_
  refine (bu (ls'' := [some (.ref l0), some (.ref l1), some (.ref l2), some (.ref l3), some (.int l4), none, none, none]) (st' := [.int (nI 1), .int l4, .ref l0, .ref l1]) bf267_792 bf267_793 rfl rfl).trans ?_
  refine (bu (ls'' := [some (.ref l0), some (.ref l1), some (.ref l2), some (.ref l3), some (.int l4), none, none, none]) (st' := [.int (l4 + (nI 1)), .ref l0, .ref l1]) bf267_793 bf267_794 rfl rfl).trans ?_
  exact bh bf267_794 bf267_795 rfl (fun _ _ => am_ge_rf w) rfl
theorem bk267_816 {w : am_Wd} {l0 : Nat} {l1 : Nat} {l2 : Nat} {l3 : Nat} {l4 : Int32} : am_run 267 816 [some (.ref l0), some (.ref l1), some (.ref l2), some (.ref l3), some (.int l4), none, none, none] [] w = (am_kf w l1 8).bind fun _ => (am_x 24 [.ref l1] w).bind fun r => bct r fun v w' => am_run 267 820 [some (.ref l0), some (.ref l1), some (.ref l2), some (.ref l3), some (.int l4), none, none, none] (v.toList ++ []) w' := by
  refine (bu (ls'' := [some (.ref l0), some (.ref l1), some (.ref l2), some (.ref l3), some (.int l4), none, none, none]) (st' := [.ref l1]) bf267_816 bf267_817 rfl rfl).trans ?_
  exact bkV bf267_817 bf267_820 rfl (by decide +kernel) (Nat.le_of_ble_eq_true rfl) rfl (bhd rfl)
theorem bk267_829 {w : am_Wd} {l0 : Nat} {l1 : Nat} {l2 : Nat} {l3 : Nat} {l4 : Int32} : am_run 267 829 [some (.ref l0), some (.ref l1), some (.ref l2), some (.ref l3), some (.int l4), none, none, none] [] w = (am_ri 0 w l0 (l4 + (nI 1))).bind fun v => am_run 267 836 [some (.ref l0), some (.ref l1), some (.ref l2), some (.ref l3), some (.int l4), none, none, none] (.int v :: [.ref l1]) w := by
  refine (bu (ls'' := [some (.ref l0), some (.ref l1), some (.ref l2), some (.ref l3), some (.int l4), none, none, none]) (st' := [.ref l1]) bf267_829 bf267_830 rfl rfl).trans ?_
  refine (bu (ls'' := [some (.ref l0), some (.ref l1), some (.ref l2), some (.ref l3), some (.int l4), none, none, none]) (st' := [.ref l0, .ref l1]) bf267_830 bf267_831 rfl rfl).trans ?_
  refine (bu (ls'' := [some (.ref l0), some (.ref l1), some (.ref l2), some (.ref l3), some (.int l4), none, none, none]) (st' := [.int l4, .ref l0, .ref l1]) bf267_831 bf267_833 rfl rfl).trans ?_
  refine (bu (ls'' := [some (.ref l0), some (.ref l1), some (.ref l2), some (.ref l3), some (.int l4), none, none, none]) (st' := [.int (nI 1), .int l4, .ref l0, .ref l1]) bf267_833 bf267_834 rfl rfl).trans ?_
  refine (bu (ls'' := [some (.ref l0), some (.ref l1), some (.ref l2), some (.ref l3), some (.int l4), none, none, none]) (st' := [.int (l4 + (nI 1)), .ref l0, .ref l1]) bf267_834 bf267_835 rfl rfl).trans ?_
  exact bh bf267_835 bf267_836 rfl (fun _ _ => am_ge_rf w) rfl
theorem bk267_881 {w : am_Wd} {l0 : Nat} {l1 : Nat} {l2 : Nat} {l3 : Nat} {l4 : Int32} : am_run 267 881 [some (.ref l0), some (.ref l1), some (.ref l2), some (.ref l3), some (.int l4), none, none, none] [] w = (am_ri 0 w l0 (l4 + (nI 1))).bind fun v => am_run 267 888 [some (.ref l0), some (.ref l1), some (.ref l2), some (.ref l3), some (.int l4), none, none, none] (.int v :: [.ref l1]) w := by
  refine (bu (ls'' := [some (.ref l0), some (.ref l1), some (.ref l2), some (.ref l3), some (.int l4), none, none, none]) (st' := [.ref l1]) bf267_881 bf267_882 rfl rfl).trans ?_
  refine (bu (ls'' := [some (.ref l0), some (.ref l1), some (.ref l2), some (.ref l3), some (.int l4), none, none, none]) (st' := [.ref l0, .ref l1]) bf267_882 bf267_883 rfl rfl).trans ?_
  refine (bu (ls'' := [some (.ref l0), some (.ref l1), some (.ref l2), some (.ref l3), some (.int l4), none, none, none]) (st' := [.int l4, .ref l0, .ref l1]) bf267_883 bf267_885 rfl rfl).trans ?_
  refine (bu (ls'' := [some (.ref l0), some (.ref l1), some (.ref l2), some (.ref l3), some (.int l4), none, none, none]) (st' := [.int (nI 1), .int l4, .ref l0, .ref l1]) bf267_885 bf267_886 rfl rfl).trans ?_
  refine (bu (ls'' := [some (.ref l0), some (.ref l1), some (.ref l2), some (.ref l3), some (.int l4), none, none, none]) (st' := [.int (l4 + (nI 1)), .ref l0, .ref l1]) bf267_886 bf267_887 rfl rfl).trans ?_
  exact bh bf267_887 bf267_888 rfl (fun _ _ => am_ge_rf w) rfl
theorem bk267_921 {w : am_Wd} {l0 : Nat} {l1 : Nat} {l2 : Nat} {l3 : Nat} {l4 : Int32} : am_run 267 921 [some (.ref l0), some (.ref l1), some (.ref l2), some (.ref l3), some (.int l4), none, none, none] [] w = (am_ri 0 w l0 (l4 + (nI 1))).bind fun v => am_run 267 928 [some (.ref l0), some (.ref l1), some (.ref l2), some (.ref l3), some (.int l4), none, none, none] (.int v :: [.ref l1]) w := by
  refine (bu (ls'' := [some (.ref l0), some (.ref l1), some (.ref l2), some (.ref l3), some (.int l4), none, none, none]) (st' := [.ref l1]) bf267_921 bf267_922 rfl rfl).trans ?_
  refine (bu (ls'' := [some (.ref l0), some (.ref l1), some (.ref l2), some (.ref l3), some (.int l4), none, none, none]) (st' := [.ref l0, .ref l1]) bf267_922 bf267_923 rfl rfl).trans ?_
  refine (bu (ls'' := [some (.ref l0), some (.ref l1), some (.ref l2), some (.ref l3), some (.int l4), none, none, none]) (st' := [.int l4, .ref l0, .ref l1]) bf267_923 bf267_925 rfl rfl).trans ?_
  refine (bu (ls'' := [some (.ref l0), some (.ref l1), some (.ref l2), some (.ref l3), some (.int l4), none, none, none]) (st' := [.int (nI 1), .int l4, .ref l0, .ref l1]) bf267_925 bf267_926 rfl rfl).trans ?_
  refine (bu (ls'' := [some (.ref l0), some (.ref l1), some (.ref l2), some (.ref l3), some (.int l4), none, none, none]) (st' := [.int (l4 + (nI 1)), .ref l0, .ref l1]) bf267_926 bf267_927 rfl rfl).trans ?_
  exact bh bf267_927 bf267_928 rfl (fun _ _ => am_ge_rf w) rfl
theorem bk267_949 {w : am_Wd} {l0 : Nat} {l1 : Nat} {l2 : Nat} {l3 : Nat} {l4 : Int32} : am_run 267 949 [some (.ref l0), some (.ref l1), some (.ref l2), some (.ref l3), some (.int l4), none, none, none] [] w = (am_ri 0 w l0 (l4 + (nI 1))).bind fun v => am_run 267 956 [some (.ref l0), some (.ref l1), some (.ref l2), some (.ref l3), some (.int l4), none, none, none] (.int v :: [.ref l1]) w := by
  refine (bu (ls'' := [some (.ref l0), some (.ref l1), some (.ref l2), some (.ref l3), some (.int l4), none, none, none]) (st' := [.ref l1]) bf267_949 bf267_950 rfl rfl).trans ?_
  refine (bu (ls'' := [some (.ref l0), some (.ref l1), some (.ref l2), some (.ref l3), some (.int l4), none, none, none]) (st' := [.ref l0, .ref l1]) bf267_950 bf267_951 rfl rfl).trans ?_
  refine (bu (ls'' := [some (.ref l0), some (.ref l1), some (.ref l2), some (.ref l3), some (.int l4), none, none, none]) (st' := [.int l4, .ref l0, .ref l1]) bf267_951 bf267_953 rfl rfl).trans ?_
  refine (bu (ls'' := [some (.ref l0), some (.ref l1), some (.ref l2), some (.ref l3), some (.int l4), none, none, none]) (st' := [.int (nI 1), .int l4, .ref l0, .ref l1]) bf267_953 bf267_954 rfl rfl).trans ?_
  refine (bu (ls'' := [some (.ref l0), some (.ref l1), some (.ref l2), some (.ref l3), some (.int l4), none, none, none]) (st' := [.int (l4 + (nI 1)), .ref l0, .ref l1]) bf267_954 bf267_955 rfl rfl).trans ?_
  exact bh bf267_955 bf267_956 rfl (fun _ _ => am_ge_rf w) rfl
theorem bk267_977 {w : am_Wd} {l0 : Nat} {l1 : Nat} {l2 : Nat} {l3 : Nat} {l4 : Int32} : am_run 267 977 [some (.ref l0), some (.ref l1), some (.ref l2), some (.ref l3), some (.int l4), none, none, none] [] w = (am_ri 0 w l0 (l4 + (nI 1))).bind fun v => am_run 267 984 [some (.ref l0), some (.ref l1), some (.ref l2), some (.ref l3), some (.int l4), none, none, none] (.int v :: [.ref l1]) w := by
  refine (bu (ls'' := [some (.ref l0), some (.ref l1), some (.ref l2), some (.ref l3), some (.int l4), none, none, none]) (st' := [.ref l1]) bf267_977 bf267_978 rfl rfl).trans ?_
  refine (bu (ls'' := [some (.ref l0), some (.ref l1), some (.ref l2), some (.ref l3), some (.int l4), none, none, none]) (st' := [.ref l0, .ref l1]) bf267_978 bf267_979 rfl rfl).trans ?_
  refine (bu (ls'' := [some (.ref l0), some (.ref l1), some (.ref l2), some (.ref l3), some (.int l4), none, none, none]) (st' := [.int l4, .ref l0, .ref l1]) bf267_979 bf267_981 rfl rfl).trans ?_
  refine (bu (ls'' := [some (.ref l0), some (.ref l1), some (.ref l2), some (.ref l3), some (.int l4), none, none, none]) (st' := [.int (nI 1), .int l4, .ref l0, .ref l1]) bf267_981 bf267_982 rfl rfl).trans ?_
  refine (bu (ls'' := [some (.ref l0), some (.ref l1), some (.ref l2), some (.ref l3), some (.int l4), none, none, none]) (st' := [.int (l4 + (nI 1)), .ref l0, .ref l1]) bf267_982 bf267_983 rfl rfl).trans ?_
  exact bh bf267_983 bf267_984 rfl (fun _ _ => am_ge_rf w) rfl
theorem bk267_1029 {w : am_Wd} {l0 : Nat} {l1 : Nat} {l2 : Nat} {l3 : Nat} {l4 : Int32} : am_run 267 1029 [some (.ref l0), some (.ref l1), some (.ref l2), some (.ref l3), some (.int l4), none, none, none] [] w = (am_ri 0 w l0 (l4 + (nI 1))).bind fun v => am_run 267 1036 [some (.ref l0), some (.ref l1), some (.ref l2), some (.ref l3), some (.int l4), none, none, none] (.int v :: [.ref l1]) w := by
  refine (bu (ls'' := [some (.ref l0), some (.ref l1), some (.ref l2), some (.ref l3), some (.int l4), none, none, none]) (st' := [.ref l1]) bf267_1029 bf267_1030 rfl rfl).trans ?_
  refine (bu (ls'' := [some (.ref l0), some (.ref l1), some (.ref l2), some (.ref l3), some (.int l4), none, none, none]) (st' := [.ref l0, .ref l1]) bf267_1030 bf267_1031 rfl rfl).trans ?_
  refine (bu (ls'' := [some (.ref l0), some (.ref l1), some (.ref l2), some (.ref l3), some (.int l4), none, none, none]) (st' := [.int l4, .ref l0, .ref l1]) bf267_1031 bf267_1033 rfl rfl).trans ?_
  refine (bu (ls'' := [some (.ref l0), some (.ref l1), some (.ref l2), some (.ref l3), some (.int l4), none, none, none]) (st' := [.int (nI 1), .int l4, .ref l0, .ref l1]) bf267_1033 bf267_1034 rfl rfl).trans ?_
  refine (bu (ls'' := [some (.ref l0), some (.ref l1), some (.ref l2), some (.ref l3), some (.int l4), none, none, none]) (st' := [.int (l4 + (nI 1)), .ref l0, .ref l1]) bf267_1034 bf267_1035 rfl rfl).trans ?_
  exact bh bf267_1035 bf267_1036 rfl (fun _ _ => am_ge_rf w) rfl
theorem bk267_1069 {w : am_Wd} {l0 : Nat} {l1 : Nat} {l2 : Nat} {l3 : Nat} {l4 : Int32} : am_run 267 1069 [some (.ref l0), some (.ref l1), some (.ref l2), some (.ref l3), some (.int l4), none, none, none] [] w = (am_ri 0 w l0 (l4 + (nI 1))).bind fun v => am_run 267 1076 [some (.ref l0), some (.ref l1), some (.ref l2), some (.ref l3), some (.int l4), none, none, none] (.int v :: [.ref l1]) w := by
  refine (bu (ls'' := [some (.ref l0), some (.ref l1), some (.ref l2), some (.ref l3), some (.int l4), none, none, none]) (st' := [.ref l1]) bf267_1069 bf267_1070 rfl rfl).trans ?_
  refine (bu (ls'' := [some (.ref l0), some (.ref l1), some (.ref l2), some (.ref l3), some (.int l4), none, none, none]) (st' := [.ref l0, .ref l1]) bf267_1070 bf267_1071 rfl rfl).trans ?_
  refine (bu (ls'' := [some (.ref l0), some (.ref l1), some (.ref l2), some (.ref l3), some (.int l4), none, none, none]) (st' := [.int l4, .ref l0, .ref l1]) bf267_1071 bf267_1073 rfl rfl).trans ?_
  refine (bu (ls'' := [some (.ref l0), some (.ref l1), some (.ref l2), some (.ref l3), some (.int l4), none, none, none]) (st' := [.int (nI 1), .int l4, .ref l0, .ref l1]) bf267_1073 bf267_1074 rfl rfl).trans ?_
  refine (bu (ls'' := [some (.ref l0), some (.ref l1), some (.ref l2), some (.ref l3), some (.int l4), none, none, none]) (st' := [.int (l4 + (nI 1)), .ref l0, .ref l1]) bf267_1074 bf267_1075 rfl rfl).trans ?_
  exact bh bf267_1075 bf267_1076 rfl (fun _ _ => am_ge_rf w) rfl
theorem bk267_1109 {w : am_Wd} {l0 : Nat} {l1 : Nat} {l2 : Nat} {l3 : Nat} {l4 : Int32} : am_run 267 1109 [some (.ref l0), some (.ref l1), some (.ref l2), some (.ref l3), some (.int l4), none, none, none] [] w = (am_ri 0 w l0 (l4 + (nI 1))).bind fun v => am_run 267 1116 [some (.ref l0), some (.ref l1), some (.ref l2), some (.ref l3), some (.int l4), none, none, none] (.int v :: [.ref l1]) w := by
  refine (bu (ls'' := [some (.ref l0), some (.ref l1), some (.ref l2), some (.ref l3), some (.int l4), none, none, none]) (st' := [.ref l1]) bf267_1109 bf267_1110 rfl rfl).trans ?_
  refine (bu (ls'' := [some (.ref l0), some (.ref l1), some (.ref l2), some (.ref l3), some (.int l4), none, none, none]) (st' := [.ref l0, .ref l1]) bf267_1110 bf267_1111 rfl rfl).trans ?_
  refine (bu (ls'' := [some (.ref l0), some (.ref l1), some (.ref l2), some (.ref l3), some (.int l4), none, none, none]) (st' := [.int l4, .ref l0, .ref l1]) bf267_1111 bf267_1113 rfl rfl).trans ?_
  refine (bu (ls'' := [some (.ref l0), some (.ref l1), some (.ref l2), some (.ref l3), some (.int l4), none, none, none]) (st' := [.int (nI 1), .int l4, .ref l0, .ref l1]) bf267_1113 bf267_1114 rfl rfl).trans ?_
  refine (bu (ls'' := [some (.ref l0), some (.ref l1), some (.ref l2), some (.ref l3), some (.int l4), none, none, none]) (st' := [.int (l4 + (nI 1)), .ref l0, .ref l1]) bf267_1114 bf267_1115 rfl rfl).trans ?_
  exact bh bf267_1115 bf267_1116 rfl (fun _ _ => am_ge_rf w) rfl
theorem bk267_1161 {w : am_Wd} {l0 : Nat} {l1 : Nat} {l2 : Nat} {l3 : Nat} {l4 : Int32} : am_run 267 1161 [some (.ref l0), some (.ref l1), some (.ref l2), some (.ref l3), some (.int l4), none, none, none] [] w = (am_ri 0 w l0 (l4 + (nI 1))).bind fun v => am_run 267 1168 [some (.ref l0), some (.ref l1), some (.ref l2), some (.ref l3), some (.int l4), none, none, none] (.int v :: [.ref l1]) w := by
  refine (bu (ls'' := [some (.ref l0), some (.ref l1), some (.ref l2), some (.ref l3), some (.int l4), none, none, none]) (st' := [.ref l1]) bf267_1161 bf267_1162 rfl rfl).trans ?_
  refine (bu (ls'' := [some (.ref l0), some (.ref l1), some (.ref l2), some (.ref l3), some (.int l4), none, none, none]) (st' := [.ref l0, .ref l1]) bf267_1162 bf267_1163 rfl rfl).trans ?_
  refine (bu (ls'' := [some (.ref l0), some (.ref l1), some (.ref l2), some (.ref l3), some (.int l4), none, none, none]) (st' := [.int l4, .ref l0, .ref l1]) bf267_1163 bf267_1165 rfl rfl).trans ?_
  refine (bu (ls'' := [some (.ref l0), some (.ref l1), some (.ref l2), some (.ref l3), some (.int l4), none, none, none]) (st' := [.int (nI 1), .int l4, .ref l0, .ref l1]) bf267_1165 bf267_1166 rfl rfl).trans ?_
  refine (bu (ls'' := [some (.ref l0), some (.ref l1), some (.ref l2), some (.ref l3), some (.int l4), none, none, none]) (st' := [.int (l4 + (nI 1)), .ref l0, .ref l1]) bf267_1166 bf267_1167 rfl rfl).trans ?_
  exact bh bf267_1167 bf267_1168 rfl (fun _ _ => am_ge_rf w) rfl
theorem bk267_1201 {w : am_Wd} {l0 : Nat} {l1 : Nat} {l2 : Nat} {l3 : Nat} {l4 : Int32} : am_run 267 1201 [some (.ref l0), some (.ref l1), some (.ref l2), some (.ref l3), some (.int l4), none, none, none] [] w = (am_ri 0 w l0 (l4 + (nI 1))).bind fun v => am_run 267 1208 [some (.ref l0), some (.ref l1), some (.ref l2), some (.ref l3), some (.int l4), none, none, none] (.int v :: [.ref l1]) w := by
  refine (bu (ls'' := [some (.ref l0), some (.ref l1), some (.ref l2), some (.ref l3), some (.int l4), none, none, none]) (st' := [.ref l1]) bf267_1201 bf267_1202 rfl rfl).trans ?_
  refine (bu (ls'' := [some (.ref l0), some (.ref l1), some (.ref l2), some (.ref l3), some (.int l4), none, none, none]) (st' := [.ref l0, .ref l1]) bf267_1202 bf267_1203 rfl rfl).trans ?_
  refine (bu (ls'' := [some (.ref l0), some (.ref l1), some (.ref l2), some (.ref l3), some (.int l4), none, none, none]) (st' := [.int l4, .ref l0, .ref l1]) bf267_1203 bf267_1205 rfl rfl).trans ?_
  refine (bu (ls'' := [some (.ref l0), some (.ref l1), some (.ref l2), some (.ref l3), some (.int l4), none, none, none]) (st' := [.int (nI 1), .int l4, .ref l0, .ref l1]) bf267_1205 bf267_1206 rfl rfl).trans ?_
  refine (bu (ls'' := [some (.ref l0), some (.ref l1), some (.ref l2), some (.ref l3), some (.int l4), none, none, none]) (st' := [.int (l4 + (nI 1)), .ref l0, .ref l1]) bf267_1206 bf267_1207 rfl rfl).trans ?_
  exact bh bf267_1207 bf267_1208 rfl (fun _ _ => am_ge_rf w) rfl
theorem bk267_1229 {w : am_Wd} {l0 : Nat} {l1 : Nat} {l2 : Nat} {l3 : Nat} {l4 : Int32} : am_run 267 1229 [some (.ref l0), some (.ref l1), some (.ref l2), some (.ref l3), some (.int l4), none, none, none] [] w = (am_ri 0 w l0 (l4 + (nI 1))).bind fun v => am_run 267 1236 [some (.ref l0), some (.ref l1), some (.ref l2), some (.ref l3), some (.int l4), none, none, none] (.int v :: [.ref l1]) w := by
  refine (bu (ls'' := [some (.ref l0), some (.ref l1), some (.ref l2), some (.ref l3), some (.int l4), none, none, none]) (st' := [.ref l1]) bf267_1229 bf267_1230 rfl rfl).trans ?_
  refine (bu (ls'' := [some (.ref l0), some (.ref l1), some (.ref l2), some (.ref l3), some (.int l4), none, none, none]) (st' := [.ref l0, .ref l1]) bf267_1230 bf267_1231 rfl rfl).trans ?_
  refine (bu (ls'' := [some (.ref l0), some (.ref l1), some (.ref l2), some (.ref l3), some (.int l4), none, none, none]) (st' := [.int l4, .ref l0, .ref l1]) bf267_1231 bf267_1233 rfl rfl).trans ?_
  refine (bu (ls'' := [some (.ref l0), some (.ref l1), some (.ref l2), some (.ref l3), some (.int l4), none, none, none]) (st' := [.int (nI 1), .int l4, .ref l0, .ref l1]) bf267_1233 bf267_1234 rfl rfl).trans ?_
  refine (bu (ls'' := [some (.ref l0), some (.ref l1), some (.ref l2), some (.ref l3), some (.int l4), none, none, none]) (st' := [.int (l4 + (nI 1)), .ref l0, .ref l1]) bf267_1234 bf267_1235 rfl rfl).trans ?_
  exact bh bf267_1235 bf267_1236 rfl (fun _ _ => am_ge_rf w) rfl
theorem bk267_1269 {w : am_Wd} {l0 : Nat} {l1 : Nat} {l2 : Nat} {l3 : Nat} {l4 : Int32} : am_run 267 1269 [some (.ref l0), some (.ref l1), some (.ref l2), some (.ref l3), some (.int l4), none, none, none] [] w = (am_ri 0 w l0 (l4 + (nI 1))).bind fun v => am_run 267 1276 [some (.ref l0), some (.ref l1), some (.ref l2), some (.ref l3), some (.int l4), none, none, none] (.int v :: [.ref l1]) w := by
  refine (bu (ls'' := [some (.ref l0), some (.ref l1), some (.ref l2), some (.ref l3), some (.int l4), none, none, none]) (st' := [.ref l1]) bf267_1269 bf267_1270 rfl rfl).trans ?_
  refine (bu (ls'' := [some (.ref l0), some (.ref l1), some (.ref l2), some (.ref l3), some (.int l4), none, none, none]) (st' := [.ref l0, .ref l1]) bf267_1270 bf267_1271 rfl rfl).trans ?_
  refine (bu (ls'' := [some (.ref l0), some (.ref l1), some (.ref l2), some (.ref l3), some (.int l4), none, none, none]) (st' := [.int l4, .ref l0, .ref l1]) bf267_1271 bf267_1273 rfl rfl).trans ?_
  refine (bu (ls'' := [some (.ref l0), some (.ref l1), some (.ref l2), some (.ref l3), some (.int l4), none, none, none]) (st' := [.int (nI 1), .int l4, .ref l0, .ref l1]) bf267_1273 bf267_1274 rfl rfl).trans ?_
  refine (bu (ls'' := [some (.ref l0), some (.ref l1), some (.ref l2), some (.ref l3), some (.int l4), none, none, none]) (st' := [.int (l4 + (nI 1)), .ref l0, .ref l1]) bf267_1274 bf267_1275 rfl rfl).trans ?_
  exact bh bf267_1275 bf267_1276 rfl (fun _ _ => am_ge_rf w) rfl
theorem bk267_1297 {w : am_Wd} {l0 : Nat} {l1 : Nat} {l2 : Nat} {l3 : Nat} {l4 : Int32} : am_run 267 1297 [some (.ref l0), some (.ref l1), some (.ref l2), some (.ref l3), some (.int l4), none, none, none] [] w = (am_ri 0 w l0 (l4 + (nI 1))).bind fun v => am_run 267 1304 [some (.ref l0), some (.ref l1), some (.ref l2), some (.ref l3), some (.int l4), none, none, none] (.int v :: [.ref l1]) w := by
  refine (bu (ls'' := [some (.ref l0), some (.ref l1), some (.ref l2), some (.ref l3), some (.int l4), none, none, none]) (st' := [.ref l1]) bf267_1297 bf267_1298 rfl rfl).trans ?_
  refine (bu (ls'' := [some (.ref l0), some (.ref l1), some (.ref l2), some (.ref l3), some (.int l4), none, none, none]) (st' := [.ref l0, .ref l1]) bf267_1298 bf267_1299 rfl rfl).trans ?_
  refine (bu (ls'' := [some (.ref l0), some (.ref l1), some (.ref l2), some (.ref l3), some (.int l4), none, none, none]) (st' := [.int l4, .ref l0, .ref l1]) bf267_1299 bf267_1301 rfl rfl).trans ?_
  refine (bu (ls'' := [some (.ref l0), some (.ref l1), some (.ref l2), some (.ref l3), some (.int l4), none, none, none]) (st' := [.int (nI 1), .int l4, .ref l0, .ref l1]) bf267_1301 bf267_1302 rfl rfl).trans ?_
  refine (bu (ls'' := [some (.ref l0), some (.ref l1), some (.ref l2), some (.ref l3), some (.int l4), none, none, none]) (st' := [.int (l4 + (nI 1)), .ref l0, .ref l1]) bf267_1302 bf267_1303 rfl rfl).trans ?_
  exact bh bf267_1303 bf267_1304 rfl (fun _ _ => am_ge_rf w) rfl
theorem bk267_1337 {w : am_Wd} {l0 : Nat} {l1 : Nat} {l2 : Nat} {l3 : Nat} {l4 : Int32} : am_run 267 1337 [some (.ref l0), some (.ref l1), some (.ref l2), some (.ref l3), some (.int l4), none, none, none] [] w = (am_ri 0 w l0 (l4 + (nI 1))).bind fun v => am_run 267 1344 [some (.ref l0), some (.ref l1), some (.ref l2), some (.ref l3), some (.int l4), none, none, none] (.int v :: [.ref l1]) w := by
  refine (bu (ls'' := [some (.ref l0), some (.ref l1), some (.ref l2), some (.ref l3), some (.int l4), none, none, none]) (st' := [.ref l1]) bf267_1337 bf267_1338 rfl rfl).trans ?_
  refine (bu (ls'' := [some (.ref l0), some (.ref l1), some (.ref l2), some (.ref l3), some (.int l4), none, none, none]) (st' := [.ref l0, .ref l1]) bf267_1338 bf267_1339 rfl rfl).trans ?_
  refine (bu (ls'' := [some (.ref l0), some (.ref l1), some (.ref l2), some (.ref l3), some (.int l4), none, none, none]) (st' := [.int l4, .ref l0, .ref l1]) bf267_1339 bf267_1341 rfl rfl).trans ?_
  refine (bu (ls'' := [some (.ref l0), some (.ref l1), some (.ref l2), some (.ref l3), some (.int l4), none, none, none]) (st' := [.int (nI 1), .int l4, .ref l0, .ref l1]) bf267_1341 bf267_1342 rfl rfl).trans ?_
  refine (bu (ls'' := [some (.ref l0), some (.ref l1), some (.ref l2), some (.ref l3), some (.int l4), none, none, none]) (st' := [.int (l4 + (nI 1)), .ref l0, .ref l1]) bf267_1342 bf267_1343 rfl rfl).trans ?_
  exact bh bf267_1343 bf267_1344 rfl (fun _ _ => am_ge_rf w) rfl
theorem bk267_1406 {w : am_Wd} {l0 : Nat} {l1 : Nat} {l2 : Nat} {l3 : Nat} {l4 : Int32} : am_run 267 1406 [some (.ref l0), some (.ref l1), some (.ref l2), some (.ref l3), some (.int l4), none, none, none] [] w = (am_kf w l1 8).bind fun _ => (am_x 224 [.ref l1] w).bind fun r => bct r fun v w' => am_run 267 1410 [some (.ref l0), some (.ref l1), some (.ref l2), some (.ref l3), some (.int l4), none, none, none] (v.toList ++ []) w' := by
  refine (bu (ls'' := [some (.ref l0), some (.ref l1), some (.ref l2), some (.ref l3), some (.int l4), none, none, none]) (st' := [.ref l1]) bf267_1406 bf267_1407 rfl rfl).trans ?_
  exact bkV bf267_1407 bf267_1410 rfl (by decide +kernel) (Nat.le_of_ble_eq_true rfl) rfl (bhd rfl)
theorem bk267_1419 {w : am_Wd} {l0 : Nat} {l1 : Nat} {l2 : Nat} {l3 : Nat} {l4 : Int32} : am_run 267 1419 [some (.ref l0), some (.ref l1), some (.ref l2), some (.ref l3), some (.int l4), none, none, none] [] w = (am_kf w l1 8).bind fun _ => (am_x 250 [.ref l1] w).bind fun r => bct r fun v w' => am_run 267 1423 [some (.ref l0), some (.ref l1), some (.ref l2), some (.ref l3), some (.int l4), none, none, none] (v.toList ++ []) w' := by
  refine (bu (ls'' := [some (.ref l0), some (.ref l1), some (.ref l2), some (.ref l3), some (.int l4), none, none, none]) (st' := [.ref l1]) bf267_1419 bf267_1420 rfl rfl).trans ?_
  exact bkV bf267_1420 bf267_1423 rfl (by decide +kernel) (Nat.le_of_ble_eq_true rfl) rfl (bhd rfl)
theorem bk267_1432 {w : am_Wd} {l0 : Nat} {l1 : Nat} {l2 : Nat} {l3 : Nat} {l4 : Int32} : am_run 267 1432 [some (.ref l0), some (.ref l1), some (.ref l2), some (.ref l3), some (.int l4), none, none, none] [] w = am_run 267 27 [some (.ref l0), some (.ref l1), some (.ref l2), some (.ref l3), some (.int (l4 + (nI 5))), none, none, none] [] w := by
  refine (bu (ls'' := [some (.ref l0), some (.ref l1), some (.ref l2), some (.ref l3), some (.int (l4 + (nI 5))), none, none, none]) (st' := []) bf267_1432 bf267_1435 rfl rfl).trans ?_
  refine (bu (ls'' := [some (.ref l0), some (.ref l1), some (.ref l2), some (.ref l3), some (.int (l4 + (nI 5))), none, none, none]) (st' := []) bf267_1435 bf267_27 rfl rfl).trans ?_
  rfl
theorem bk267_179 {w : am_Wd} {l0 : Nat} {l1 : Nat} {l2 : Nat} {l3 : Nat} {l4 : Int32} {s0 : Int32} {s1 : Nat} : am_run 267 179 [some (.ref l0), some (.ref l1), some (.ref l2), some (.ref l3), some (.int l4), none, none, none] [.int s0, .ref s1] w = (am_ri 0 w l0 (l4 + (nI 2))).bind fun v => am_run 267 185 [some (.ref l0), some (.ref l1), some (.ref l2), some (.ref l3), some (.int l4), none, none, none] (.int v :: [.int s0, .ref s1]) w := by
  refine (bu (ls'' := [some (.ref l0), some (.ref l1), some (.ref l2), some (.ref l3), some (.int l4), none, none, none]) (st' := [.ref l0, .int s0, .ref s1]) bf267_179 bf267_180 rfl rfl).trans ?_
  refine (bu (ls'' := [some (.ref l0), some (.ref l1), some (.ref l2), some (.ref l3), some (.int l4), none, none, none]) (st' := [.int l4, .ref l0, .int s0, .ref s1]) bf267_180 bf267_182 rfl rfl).trans ?_
  refine (bu (ls'' := [some (.ref l0), some (.ref l1), some (.ref l2), some (.ref l3), some (.int l4), none, none, none]) (st' := [.int (nI 2), .int l4, .ref l0, .int s0, .ref s1]) bf267_182 bf267_183 rfl rfl).trans ?_
  refine (bu (ls'' := [some (.ref l0), some (.ref l1), some (.ref l2), some (.ref l3), some (.int l4), none, none, none]) (st' := [.int (l4 + (nI 2)), .ref l0, .int s0, .ref s1]) bf267_183 bf267_184 rfl rfl).trans ?_
  exact bh bf267_184 bf267_185 rfl (fun _ _ => am_ge_rf w) rfl
theorem bk267_243 {w : am_Wd} {l0 : Nat} {l1 : Nat} {l2 : Nat} {l3 : Nat} {l4 : Int32} {s0 : Int32} {s1 : Nat} : am_run 267 243 [some (.ref l0), some (.ref l1), some (.ref l2), some (.ref l3), some (.int l4), none, none, none] [.int s0, .ref s1] w = (am_x 233 [.ref s1, .int s0, .ref l3] w).bind fun r => bct r fun v w' => am_run 267 247 [some (.ref l0), some (.ref l1), some (.ref l2), some (.ref l3), some (.int l4), none, none, none] (v.toList ++ []) w' := by
  refine (bu (ls'' := [some (.ref l0), some (.ref l1), some (.ref l2), some (.ref l3), some (.int l4), none, none, none]) (st' := [.ref l3, .int s0, .ref s1]) bf267_243 bf267_244 rfl rfl).trans ?_
  exact bkS bf267_244 bf267_247 rfl (by decide +kernel) (Nat.le_of_ble_eq_true rfl) rfl (bhd rfl)
theorem bk267_271 {w : am_Wd} {l0 : Nat} {l1 : Nat} {l2 : Nat} {l3 : Nat} {l4 : Int32} {s0 : Int32} {s1 : Nat} : am_run 267 271 [some (.ref l0), some (.ref l1), some (.ref l2), some (.ref l3), some (.int l4), none, none, none] [.int s0, .ref s1] w = (am_ri 0 w l0 (l4 + (nI 2))).bind fun v => am_run 267 277 [some (.ref l0), some (.ref l1), some (.ref l2), some (.ref l3), some (.int l4), none, none, none] (.int v :: [.int s0, .ref s1]) w := by
  refine (bu (ls'' := [some (.ref l0), some (.ref l1), some (.ref l2), some (.ref l3), some (.int l4), none, none, none]) (st' := [.ref l0, .int s0, .ref s1]) bf267_271 bf267_272 rfl rfl).trans ?_
  refine (bu (ls'' := [some (.ref l0), some (.ref l1), some (.ref l2), some (.ref l3), some (.int l4), none, none, none]) (st' := [.int l4, .ref l0, .int s0, .ref s1]) bf267_272 bf267_274 rfl rfl).trans ?_
  refine (bu (ls'' := [some (.ref l0), some (.ref l1), some (.ref l2), some (.ref l3), some (.int l4), none, none, none]) (st' := [.int (nI 2), .int l4, .ref l0, .int s0, .ref s1]) bf267_274 bf267_275 rfl rfl).trans ?_
  refine (bu (ls'' := [some (.ref l0), some (.ref l1), some (.ref l2), some (.ref l3), some (.int l4), none, none, none]) (st' := [.int (l4 + (nI 2)), .ref l0, .int s0, .ref s1]) bf267_275 bf267_276 rfl rfl).trans ?_
  exact bh bf267_276 bf267_277 rfl (fun _ _ => am_ge_rf w) rfl
theorem bk267_355 {w : am_Wd} {l0 : Nat} {l1 : Nat} {l2 : Nat} {l3 : Nat} {l4 : Int32} {s0 : Int32} {s1 : Nat} : am_run 267 355 [some (.ref l0), some (.ref l1), some (.ref l2), some (.ref l3), some (.int l4), none, none, none] [.int s0, .ref s1] w = (am_ri 0 w l0 (l4 + (nI 2))).bind fun v => am_run 267 361 [some (.ref l0), some (.ref l1), some (.ref l2), some (.ref l3), some (.int l4), none, none, none] (.int v :: [.int s0, .ref s1]) w := by
  refine (bu (ls'' := [some (.ref l0), some (.ref l1), some (.ref l2), some (.ref l3), some (.int l4), none, none, none]) (st' := [.ref l0, .int s0, .ref s1]) bf267_355 bf267_356 rfl rfl).trans ?_
  refine (bu (ls'' := [some (.ref l0), some (.ref l1), some (.ref l2), some (.ref l3), some (.int l4), none, none, none]) (st' := [.int l4, .ref l0, .int s0, .ref s1]) bf267_356 bf267_358 rfl rfl).trans ?_
  refine (bu (ls'' := [some (.ref l0), some (.ref l1), some (.ref l2), some (.ref l3), some (.int l4), none, none, none]) (st' := [.int (nI 2), .int l4, .ref l0, .int s0, .ref s1]) bf267_358 bf267_359 rfl rfl).trans ?_
  refine (bu (ls'' := [some (.ref l0), some (.ref l1), some (.ref l2), some (.ref l3), some (.int l4), none, none, none]) (st' := [.int (l4 + (nI 2)), .ref l0, .int s0, .ref s1]) bf267_359 bf267_360 rfl rfl).trans ?_
  exact bh bf267_360 bf267_361 rfl (fun _ _ => am_ge_rf w) rfl
theorem bk267_435 {w : am_Wd} {l0 : Nat} {l1 : Nat} {l2 : Nat} {l3 : Nat} {l4 : Int32} {s0 : Int32} {s1 : Nat} : am_run 267 435 [some (.ref l0), some (.ref l1), some (.ref l2), some (.ref l3), some (.int l4), none, none, none] [.int s0, .ref s1] w = (am_ri 0 w l0 (l4 + (nI 2))).bind fun v => am_run 267 441 [some (.ref l0), some (.ref l1), some (.ref l2), some (.ref l3), some (.int l4), none, none, none] (.int v :: [.int s0, .ref s1]) w := by
  refine (bu (ls'' := [some (.ref l0), some (.ref l1), some (.ref l2), some (.ref l3), some (.int l4), none, none, none]) (st' := [.ref l0, .int s0, .ref s1]) bf267_435 bf267_436 rfl rfl).trans ?_
  refine (bu (ls'' := [some (.ref l0), some (.ref l1), some (.ref l2), some (.ref l3), some (.int l4), none, none, none]) (st' := [.int l4, .ref l0, .int s0, .ref s1]) bf267_436 bf267_438 rfl rfl).trans ?_
  refine (bu (ls'' := [some (.ref l0), some (.ref l1), some (.ref l2), some (.ref l3), some (.int l4), none, none, none]) (st' := [.int (nI 2), .int l4, .ref l0, .int s0, .ref s1]) bf267_438 bf267_439 rfl rfl).trans ?_
  refine (bu (ls'' := [some (.ref l0), some (.ref l1), some (.ref l2), some (.ref l3), some (.int l4), none, none, none]) (st' := [.int (l4 + (nI 2)), .ref l0, .int s0, .ref s1]) bf267_439 bf267_440 rfl rfl).trans ?_
  exact bh bf267_440 bf267_441 rfl (fun _ _ => am_ge_rf w) rfl
theorem bk267_491 {w : am_Wd} {l0 : Nat} {l1 : Nat} {l2 : Nat} {l3 : Nat} {l4 : Int32} {s0 : Int32} {s1 : Nat} : am_run 267 491 [some (.ref l0), some (.ref l1), some (.ref l2), some (.ref l3), some (.int l4), none, none, none] [.int s0, .ref s1] w = (am_ri 0 w l0 (l4 + (nI 2))).bind fun v => am_run 267 497 [some (.ref l0), some (.ref l1), some (.ref l2), some (.ref l3), some (.int l4), none, none, none] (.int v :: [.int s0, .ref s1]) w := by
  refine (bu (ls'' := [some (.ref l0), some (.ref l1), some (.ref l2), some (.ref l3), some (.int l4), none, none, none]) (st' := [.ref l0, .int s0, .ref s1]) bf267_491 bf267_492 rfl rfl).trans ?_
  refine (bu (ls'' := [some (.ref l0), some (.ref l1), some (.ref l2), some (.ref l3), some (.int l4), none, none, none]) (st' := [.int l4, .ref l0, .int s0, .ref s1]) bf267_492 bf267_494 rfl rfl).trans ?_
  refine (bu (ls'' := [some (.ref l0), some (.ref l1), some (.ref l2), some (.ref l3), some (.int l4), none, none, none]) (st' := [.int (nI 2), .int l4, .ref l0, .int s0, .ref s1]) bf267_494 bf267_495 rfl rfl).trans ?_
  refine (bu (ls'' := [some (.ref l0), some (.ref l1), some (.ref l2), some (.ref l3), some (.int l4), none, none, none]) (st' := [.int (l4 + (nI 2)), .ref l0, .int s0, .ref s1]) bf267_495 bf267_496 rfl rfl).trans ?_
  exact bh bf267_496 bf267_497 rfl (fun _ _ => am_ge_rf w) rfl
theorem bk267_575 {w : am_Wd} {l0 : Nat} {l1 : Nat} {l2 : Nat} {l3 : Nat} {l4 : Int32} {s0 : Int32} {s1 : Nat} : am_run 267 575 [some (.ref l0), some (.ref l1), some (.ref l2), some (.ref l3), some (.int l4), none, none, none] [.int s0, .ref s1] w = (am_ri 0 w l0 (l4 + (nI 2))).bind fun v => am_run 267 581 [some (.ref l0), some (.ref l1), some (.ref l2), some (.ref l3), some (.int l4), none, none, none] (.int v :: [.int s0, .ref s1]) w := by
  refine (bu (ls'' := [some (.ref l0), some (.ref l1), some (.ref l2), some (.ref l3), some (.int l4), none, none, none]) (st' := [.ref l0, .int s0, .ref s1]) bf267_575 bf267_576 rfl rfl).trans ?_
  refine (bu (ls'' := [some (.ref l0), some (.ref l1), some (.ref l2), some (.ref l3), some (.int l4), none, none, none]) (st' := [.int l4, .ref l0, .int s0, .ref s1]) bf267_576 bf267_578 rfl rfl).trans ?_
  refine (bu (ls'' := [some (.ref l0), some (.ref l1), some (.ref l2), some (.ref l3), some (.int l4), none, none, none]) (st' := [.int (nI 2), .int l4, .ref l0, .int s0, .ref s1]) bf267_578 bf267_579 rfl rfl).trans ?_
  refine (bu (ls'' := [some (.ref l0), some (.ref l1), some (.ref l2), some (.ref l3), some (.int l4), none, none, none]) (st' := [.int (l4 + (nI 2)), .ref l0, .int s0, .ref s1]) bf267_579 bf267_580 rfl rfl).trans ?_
  exact bh bf267_580 bf267_581 rfl (fun _ _ => am_ge_rf w) rfl
theorem bk267_631 {w : am_Wd} {l0 : Nat} {l1 : Nat} {l2 : Nat} {l3 : Nat} {l4 : Int32} {s0 : Int32} {s1 : Nat} : am_run 267 631 [some (.ref l0), some (.ref l1), some (.ref l2), some (.ref l3), some (.int l4), none, none, none] [.int s0, .ref s1] w = (am_ri 0 w l0 (l4 + (nI 2))).bind fun v => am_run 267 637 [some (.ref l0), some (.ref l1), some (.ref l2), some (.ref l3), some (.int l4), none, none, none] (.int v :: [.int s0, .ref s1]) w := by
  refine (bu (ls'' := [some (.ref l0), some (.ref l1), some (.ref l2), some (.ref l3), some (.int l4), none, none, none]) (st' := [.ref l0, .int s0, .ref s1]) bf267_631 bf267_632 rfl rfl).trans ?_
  refine (bu (ls'' := [some (.ref l0), some (.ref l1), some (.ref l2), some (.ref l3), some (.int l4), none, none, none]) (st' := [.int l4, .ref l0, .int s0, .ref s1]) bf267_632 bf267_634 rfl rfl).trans ?_
  refine (bu (ls'' := [some (.ref l0), some (.ref l1), some (.ref l2), some (.ref l3), some (.int l4), none, none, none]) (st' := [.int (nI 2), .int l4, .ref l0, .int s0, .ref s1]) bf267_634 bf267_635 rfl rfl).trans ?_
  refine (bu (ls'' := [some (.ref l0), some (.ref l1), some (.ref l2), some (.ref l3), some (.int l4), none, none, none]) (st' := [.int (l4 + (nI 2)), .ref l0, .int s0, .ref s1]) bf267_635 bf267_636 rfl rfl).trans ?_
  exact bh bf267_636 bf267_637 rfl (fun _ _ => am_ge_rf w) rfl
theorem bk267_687 {w : am_Wd} {l0 : Nat} {l1 : Nat} {l2 : Nat} {l3 : Nat} {l4 : Int32} {s0 : Int32} {s1 : Nat} : am_run 267 687 [some (.ref l0), some (.ref l1), some (.ref l2), some (.ref l3), some (.int l4), none, none, none] [.int s0, .ref s1] w = (am_ri 0 w l0 (l4 + (nI 2))).bind fun v => am_run 267 693 [some (.ref l0), some (.ref l1), some (.ref l2), some (.ref l3), some (.int l4), none, none, none] (.int v :: [.int s0, .ref s1]) w := by
  refine (bu (ls'' := [some (.ref l0), some (.ref l1), some (.ref l2), some (.ref l3), some (.int l4), none, none, none]) (st' := [.ref l0, .int s0, .ref s1]) bf267_687 bf267_688 rfl rfl).trans ?_
  refine (bu (ls'' := [some (.ref l0), some (.ref l1), some (.ref l2), some (.ref l3), some (.int l4), none, none, none]) (st' := [.int l4, .ref l0, .int s0, .ref s1]) bf267_688 bf267_690 rfl rfl).trans ?_
  refine (bu (ls'' := [some (.ref l0), some (.ref l1), some (.ref l2), some (.ref l3), some (.int l4), none, none, none]) (st' := [.int (nI 2), .int l4, .ref l0, .int s0, .ref s1]) bf267_690 bf267_691 rfl rfl).trans ?_
  refine (bu (ls'' := [some (.ref l0), some (.ref l1), some (.ref l2), some (.ref l3), some (.int l4), none, none, none]) (st' := [.int (l4 + (nI 2)), .ref l0, .int s0, .ref s1]) bf267_691 bf267_692 rfl rfl).trans ?_
  exact bh bf267_692 bf267_693 rfl (fun _ _ => am_ge_rf w) rfl
theorem bk267_727 {w : am_Wd} {l0 : Nat} {l1 : Nat} {l2 : Nat} {l3 : Nat} {l4 : Int32} {s0 : Int32} {s1 : Nat} : am_run 267 727 [some (.ref l0), some (.ref l1), some (.ref l2), some (.ref l3), some (.int l4), none, none, none] [.int s0, .ref s1] w = (am_x 188 [.ref s1, .int s0, .ref l3] w).bind fun r => bct r fun v w' => am_run 267 731 [some (.ref l0), some (.ref l1), some (.ref l2), some (.ref l3), some (.int l4), none, none, none] (v.toList ++ []) w' := by
  refine (bu (ls'' := [some (.ref l0), some (.ref l1), some (.ref l2), some (.ref l3), some (.int l4), none, none, none]) (st' := [.ref l3, .int s0, .ref s1]) bf267_727 bf267_728 rfl rfl).trans ?_
  exact bkS bf267_728 bf267_731 rfl (by decide +kernel) (Nat.le_of_ble_eq_true rfl) rfl (bhd rfl)
theorem bk267_755 {w : am_Wd} {l0 : Nat} {l1 : Nat} {l2 : Nat} {l3 : Nat} {l4 : Int32} {s0 : Int32} {s1 : Nat} : am_run 267 755 [some (.ref l0), some (.ref l1), some (.ref l2), some (.ref l3), some (.int l4), none, none, none] [.int s0, .ref s1] w = (am_ri 0 w l0 (l4 + (nI 2))).bind fun v => am_run 267 761 [some (.ref l0), some (.ref l1), some (.ref l2), some (.ref l3), some (.int l4), none, none, none] (.int v :: [.int s0, .ref s1]) w := by
  refine (bu (ls'' := [some (.ref l0), some (.ref l1), some (.ref l2), some (.ref l3), some (.int l4), none, none, none]) (st' := [.ref l0, .int s0, .ref s1]) bf267_755 bf267_756 rfl rfl).trans ?_
  refine (bu (ls'' := [some (.ref l0), some (.ref l1), some (.ref l2), some (.ref l3), some (.int l4), none, none, none]) (st' := [.int l4, .ref l0, .int s0, .ref s1]) bf267_756 bf267_758 rfl rfl).trans ?_
  refine (bu (ls'' := [some (.ref l0), some (.ref l1), some (.ref l2), some (.ref l3), some (.int l4), none, none, none]) (st' := [.int (nI 2), .int l4, .ref l0, .int s0, .ref s1]) bf267_758 bf267_759 rfl rfl).trans ?_
  refine (bu (ls'' := [some (.ref l0), some (.ref l1), some (.ref l2), some (.ref l3), some (.int l4), none, none, none]) (st' := [.int (l4 + (nI 2)), .ref l0, .int s0, .ref s1]) bf267_759 bf267_760 rfl rfl).trans ?_
  exact bh bf267_760 bf267_761 rfl (fun _ _ => am_ge_rf w) rfl
theorem bk267_795 {w : am_Wd} {l0 : Nat} {l1 : Nat} {l2 : Nat} {l3 : Nat} {l4 : Int32} {s0 : Int32} {s1 : Nat} : am_run 267 795 [some (.ref l0), some (.ref l1), some (.ref l2), some (.ref l3), some (.int l4), none, none, none] [.int s0, .ref s1] w = (am_x 189 [.ref s1, .int s0, .ref l3] w).bind fun r => bct r fun v w' => am_run 267 799 [some (.ref l0), some (.ref l1), some (.ref l2), some (.ref l3), some (.int l4), none, none, none] (v.toList ++ []) w' := by
  refine (bu (ls'' := [some (.ref l0), some (.ref l1), some (.ref l2), some (.ref l3), some (.int l4), none, none, none]) (st' := [.ref l3, .int s0, .ref s1]) bf267_795 bf267_796 rfl rfl).trans ?_
  exact bkS bf267_796 bf267_799 rfl (by decide +kernel) (Nat.le_of_ble_eq_true rfl) rfl (bhd rfl)
theorem bk267_820 {w : am_Wd} {l0 : Nat} {l1 : Nat} {l2 : Nat} {l3 : Nat} {l4 : Int32} {s0 : Int32} : am_run 267 820 [some (.ref l0), some (.ref l1), some (.ref l2), some (.ref l3), some (.int l4), none, none, none] [.int s0] w = (am_kf w l2 11).bind fun _ => (am_x 47 [.ref l2] w).bind fun r => bct r fun v w' => am_run 267 825 [some (.ref l0), some (.ref l1), some (.ref l2), some (.ref l3), some (.int l4), none, none, none] (v.toList ++ []) w' := by
  refine (bu (ls'' := [some (.ref l0), some (.ref l1), some (.ref l2), some (.ref l3), some (.int l4), none, none, none]) (st' := []) bf267_820 bf267_821 rfl rfl).trans ?_
  refine (bu (ls'' := [some (.ref l0), some (.ref l1), some (.ref l2), some (.ref l3), some (.int l4), none, none, none]) (st' := [.ref l2]) bf267_821 bf267_822 rfl rfl).trans ?_
  exact bkV bf267_822 bf267_825 rfl (by decide +kernel) (Nat.le_of_ble_eq_true rfl) rfl (bhd rfl)
theorem bk267_836 {w : am_Wd} {l0 : Nat} {l1 : Nat} {l2 : Nat} {l3 : Nat} {l4 : Int32} {s0 : Int32} {s1 : Nat} : am_run 267 836 [some (.ref l0), some (.ref l1), some (.ref l2), some (.ref l3), some (.int l4), none, none, none] [.int s0, .ref s1] w = (am_ri 0 w l0 (l4 + (nI 2))).bind fun v => am_run 267 842 [some (.ref l0), some (.ref l1), some (.ref l2), some (.ref l3), some (.int l4), none, none, none] (.int v :: [.int s0, .ref s1]) w := by
  refine (bu (ls'' := [some (.ref l0), some (.ref l1), some (.ref l2), some (.ref l3), some (.int l4), none, none, none]) (st' := [.ref l0, .int s0, .ref s1]) bf267_836 bf267_837 rfl rfl).trans ?_
  refine (bu (ls'' := [some (.ref l0), some (.ref l1), some (.ref l2), some (.ref l3), some (.int l4), none, none, none]) (st' := [.int l4, .ref l0, .int s0, .ref s1]) bf267_837 bf267_839 rfl rfl).trans ?_
  refine (bu (ls'' := [some (.ref l0), some (.ref l1), some (.ref l2), some (.ref l3), some (.int l4), none, none, none]) (st' := [.int (nI 2), .int l4, .ref l0, .int s0, .ref s1]) bf267_839 bf267_840 rfl rfl).trans ?_
  refine (bu (ls'' := [some (.ref l0), some (.ref l1), some (.ref l2), some (.ref l3), some (.int l4), none, none, none]) (st' := [.int (l4 + (nI 2)), .ref l0, .int s0, .ref s1]) bf267_840 bf267_841 rfl rfl).trans ?_
  exact bh bf267_841 bf267_842 rfl (fun _ _ => am_ge_rf w) rfl
theorem bk267_888 {w : am_Wd} {l0 : Nat} {l1 : Nat} {l2 : Nat} {l3 : Nat} {l4 : Int32} {s0 : Int32} {s1 : Nat} : am_run 267 888 [some (.ref l0), some (.ref l1), some (.ref l2), some (.ref l3), some (.int l4), none, none, none] [.int s0, .ref s1] w = (am_ri 0 w l0 (l4 + (nI 2))).bind fun v => am_run 267 894 [some (.ref l0), some (.ref l1), some (.ref l2), some (.ref l3), some (.int l4), none, none, none] (.int v :: [.int s0, .ref s1]) w := by
  refine (bu (ls'' := [some (.ref l0), some (.ref l1), some (.ref l2), some (.ref l3), some (.int l4), none, none, none]) (st' := [.ref l0, .int s0, .ref s1]) bf267_888 bf267_889 rfl rfl).trans ?_
  refine (bu (ls'' := [some (.ref l0), some (.ref l1), some (.ref l2), some (.ref l3), some (.int l4), none, none, none]) (st' := [.int l4, .ref l0, .int s0, .ref s1]) bf267_889 bf267_891 rfl rfl).trans ?_
  refine (bu (ls'' := [some (.ref l0), some (.ref l1), some (.ref l2), some (.ref l3), some (.int l4), none, none, none]) (st' := [.int (nI 2), .int l4, .ref l0, .int s0, .ref s1]) bf267_891 bf267_892 rfl rfl).trans ?_
  refine (bu (ls'' := [some (.ref l0), some (.ref l1), some (.ref l2), some (.ref l3), some (.int l4), none, none, none]) (st' := [.int (l4 + (nI 2)), .ref l0, .int s0, .ref s1]) bf267_892 bf267_893 rfl rfl).trans ?_
  exact bh bf267_893 bf267_894 rfl (fun _ _ => am_ge_rf w) rfl
theorem bk267_928 {w : am_Wd} {l0 : Nat} {l1 : Nat} {l2 : Nat} {l3 : Nat} {l4 : Int32} {s0 : Int32} {s1 : Nat} : am_run 267 928 [some (.ref l0), some (.ref l1), some (.ref l2), some (.ref l3), some (.int l4), none, none, none] [.int s0, .ref s1] w = (am_x 190 [.ref s1, .int s0, .ref l3] w).bind fun r => bct r fun v w' => am_run 267 932 [some (.ref l0), some (.ref l1), some (.ref l2), some (.ref l3), some (.int l4), none, none, none] (v.toList ++ []) w' := by
  refine (bu (ls'' := [some (.ref l0), some (.ref l1), some (.ref l2), some (.ref l3), some (.int l4), none, none, none]) (st' := [.ref l3, .int s0, .ref s1]) bf267_928 bf267_929 rfl rfl).trans ?_
  exact bkS bf267_929 bf267_932 rfl (by decide +kernel) (Nat.le_of_ble_eq_true rfl) rfl (bhd rfl)
theorem bk267_956 {w : am_Wd} {l0 : Nat} {l1 : Nat} {l2 : Nat} {l3 : Nat} {l4 : Int32} {s0 : Int32} {s1 : Nat} : am_run 267 956 [some (.ref l0), some (.ref l1), some (.ref l2), some (.ref l3), some (.int l4), none, none, none] [.int s0, .ref s1] w = (am_x 257 [.ref s1, .int s0, .ref l3] w).bind fun r => bct r fun v w' => am_run 267 960 [some (.ref l0), some (.ref l1), some (.ref l2), some (.ref l3), some (.int l4), none, none, none] (v.toList ++ []) w' := by
  refine (bu (ls'' := [some (.ref l0), some (.ref l1), some (.ref l2), some (.ref l3), some (.int l4), none, none, none]) (st' := [.ref l3, .int s0, .ref s1]) bf267_956 bf267_957 rfl rfl).trans ?_
  exact bkS bf267_957 bf267_960 rfl (by decide +kernel) (Nat.le_of_ble_eq_true rfl) rfl (bhd rfl)
theorem bk267_984 {w : am_Wd} {l0 : Nat} {l1 : Nat} {l2 : Nat} {l3 : Nat} {l4 : Int32} {s0 : Int32} {s1 : Nat} : am_run 267 984 [some (.ref l0), some (.ref l1), some (.ref l2), some (.ref l3), some (.int l4), none, none, none] [.int s0, .ref s1] w = (am_ri 0 w l0 (l4 + (nI 2))).bind fun v => am_run 267 990 [some (.ref l0), some (.ref l1), some (.ref l2), some (.ref l3), some (.int l4), none, none, none] (.int v :: [.int s0, .ref s1]) w := by
  refine (bu (ls'' := [some (.ref l0), some (.ref l1), some (.ref l2), some (.ref l3), some (.int l4), none, none, none]) (st' := [.ref l0, .int s0, .ref s1]) bf267_984 bf267_985 rfl rfl).trans ?_
  refine (bu (ls'' := [some (.ref l0), some (.ref l1), some (.ref l2), some (.ref l3), some (.int l4), none, none, none]) (st' := [.int l4, .ref l0, .int s0, .ref s1]) bf267_985 bf267_987 rfl rfl).trans ?_
  refine (bu (ls'' := [some (.ref l0), some (.ref l1), some (.ref l2), some (.ref l3), some (.int l4), none, none, none]) (st' := [.int (nI 2), .int l4, .ref l0, .int s0, .ref s1]) bf267_987 bf267_988 rfl rfl).trans ?_
  refine (bu (ls'' := [some (.ref l0), some (.ref l1), some (.ref l2), some (.ref l3), some (.int l4), none, none, none]) (st' := [.int (l4 + (nI 2)), .ref l0, .int s0, .ref s1]) bf267_988 bf267_989 rfl rfl).trans ?_
  exact bh bf267_989 bf267_990 rfl (fun _ _ => am_ge_rf w) rfl
theorem bk267_1036 {w : am_Wd} {l0 : Nat} {l1 : Nat} {l2 : Nat} {l3 : Nat} {l4 : Int32} {s0 : Int32} {s1 : Nat} : am_run 267 1036 [some (.ref l0), some (.ref l1), some (.ref l2), some (.ref l3), some (.int l4), none, none, none] [.int s0, .ref s1] w = (am_ri 0 w l0 (l4 + (nI 2))).bind fun v => am_run 267 1042 [some (.ref l0), some (.ref l1), some (.ref l2), some (.ref l3), some (.int l4), none, none, none] (.int v :: [.int s0, .ref s1]) w := by
  refine (bu (ls'' := [some (.ref l0), some (.ref l1), some (.ref l2), some (.ref l3), some (.int l4), none, none, none]) (st' := [.ref l0, .int s0, .ref s1]) bf267_1036 bf267_1037 rfl rfl).trans ?_
  refine (bu (ls'' := [some (.ref l0), some (.ref l1), some (.ref l2), some (.ref l3), some (.int l4), none, none, none]) (st' := [.int l4, .ref l0, .int s0, .ref s1]) bf267_1037 bf267_1039 rfl rfl).trans ?_
  refine (bu (ls'' := [some (.ref l0), some (.ref l1), some (.ref l2), some (.ref l3), some (.int l4), none, none, none]) (st' := [.int (nI 2), .int l4, .ref l0, .int s0, .ref s1]) bf267_1039 bf267_1040 rfl rfl).trans ?_
  refine (bu (ls'' := [some (.ref l0), some (.ref l1), some (.ref l2), some (.ref l3), some (.int l4), none, none, none]) (st' := [.int (l4 + (nI 2)), .ref l0, .int s0, .ref s1]) bf267_1040 bf267_1041 rfl rfl).trans ?_
  exact bh bf267_1041 bf267_1042 rfl (fun _ _ => am_ge_rf w) rfl
theorem bk267_1076 {w : am_Wd} {l0 : Nat} {l1 : Nat} {l2 : Nat} {l3 : Nat} {l4 : Int32} {s0 : Int32} {s1 : Nat} : am_run 267 1076 [some (.ref l0), some (.ref l1), some (.ref l2), some (.ref l3), some (.int l4), none, none, none] [.int s0, .ref s1] w = (am_ri 0 w l0 (l4 + (nI 2))).bind fun v => am_run 267 1082 [some (.ref l0), some (.ref l1), some (.ref l2), some (.ref l3), some (.int l4), none, none, none] (.int v :: [.int s0, .ref s1]) w := by
  refine (bu (ls'' := [some (.ref l0), some (.ref l1), some (.ref l2), some (.ref l3), some (.int l4), none, none, none]) (st' := [.ref l0, .int s0, .ref s1]) bf267_1076 bf267_1077 rfl rfl).trans ?_
  refine (bu (ls'' := [some (.ref l0), some (.ref l1), some (.ref l2), some (.ref l3), some (.int l4), none, none, none]) (st' := [.int l4, .ref l0, .int s0, .ref s1]) bf267_1077 bf267_1079 rfl rfl).trans ?_
  refine (bu (ls'' := [some (.ref l0), some (.ref l1), some (.ref l2), some (.ref l3), some (.int l4), none, none, none]) (st' := [.int (nI 2), .int l4, .ref l0, .int s0, .ref s1]) bf267_1079 bf267_1080 rfl rfl).trans ?_
  refine (bu (ls'' := [some (.ref l0), some (.ref l1), some (.ref l2), some (.ref l3), some (.int l4), none, none, none]) (st' := [.int (l4 + (nI 2)), .ref l0, .int s0, .ref s1]) bf267_1080 bf267_1081 rfl rfl).trans ?_
  exact bh bf267_1081 bf267_1082 rfl (fun _ _ => am_ge_rf w) rfl
theorem bk267_1116 {w : am_Wd} {l0 : Nat} {l1 : Nat} {l2 : Nat} {l3 : Nat} {l4 : Int32} {s0 : Int32} {s1 : Nat} : am_run 267 1116 [some (.ref l0), some (.ref l1), some (.ref l2), some (.ref l3), some (.int l4), none, none, none] [.int s0, .ref s1] w = (am_ri 0 w l0 (l4 + (nI 2))).bind fun v => am_run 267 1122 [some (.ref l0), some (.ref l1), some (.ref l2), some (.ref l3), some (.int l4), none, none, none] (.int v :: [.int s0, .ref s1]) w := by
  refine (bu (ls'' := [some (.ref l0), some (.ref l1), some (.ref l2), some (.ref l3), some (.int l4), none, none, none]) (st' := [.ref l0, .int s0, .ref s1]) bf267_1116 bf267_1117 rfl rfl).trans ?_
  refine (bu (ls'' := [some (.ref l0), some (.ref l1), some (.ref l2), some (.ref l3), some (.int l4), none, none, none]) (st' := [.int l4, .ref l0, .int s0, .ref s1]) bf267_1117 bf267_1119 rfl rfl).trans ?_
  refine (bu (ls'' := [some (.ref l0), some (.ref l1), some (.ref l2), some (.ref l3), some (.int l4), none, none, none]) (st' := [.int (nI 2), .int l4, .ref l0, .int s0, .ref s1]) bf267_1119 bf267_1120 rfl rfl).trans ?_
  refine (bu (ls'' := [some (.ref l0), some (.ref l1), some (.ref l2), some (.ref l3), some (.int l4), none, none, none]) (st' := [.int (l4 + (nI 2)), .ref l0, .int s0, .ref s1]) bf267_1120 bf267_1121 rfl rfl).trans ?_
  exact bh bf267_1121 bf267_1122 rfl (fun _ _ => am_ge_rf w) rfl
theorem bk267_1168 {w : am_Wd} {l0 : Nat} {l1 : Nat} {l2 : Nat} {l3 : Nat} {l4 : Int32} {s0 : Int32} {s1 : Nat} : am_run 267 1168 [some (.ref l0), some (.ref l1), some (.ref l2), some (.ref l3), some (.int l4), none, none, none] [.int s0, .ref s1] w = (am_ri 0 w l0 (l4 + (nI 2))).bind fun v => am_run 267 1174 [some (.ref l0), some (.ref l1), some (.ref l2), some (.ref l3), some (.int l4), none, none, none] (.int v :: [.int s0, .ref s1]) w := by
  refine (bu (ls'' := [some (.ref l0), some (.ref l1), some (.ref l2), some (.ref l3), some (.int l4), none, none, none]) (st' := [.ref l0, .int s0, .ref s1]) bf267_1168 bf267_1169 rfl rfl).trans ?_
  refine (bu (ls'' := [some (.ref l0), some (.ref l1), some (.ref l2), some (.ref l3), some (.int l4), none, none, none]) (st' := [.int l4, .ref l0, .int s0, .ref s1]) bf267_1169 bf267_1171 rfl rfl).trans ?_
  refine (bu (ls'' := [some (.ref l0), some (.ref l1), some (.ref l2), some (.ref l3), some (.int l4), none, none, none]) (st' := [.int (nI 2), .int l4, .ref l0, .int s0, .ref s1]) bf267_1171 bf267_1172 rfl rfl).trans ?_
  refine (bu (ls'' := [some (.ref l0), some (.ref l1), some (.ref l2), some (.ref l3), some (.int l4), none, none, none]) (st' := [.int (l4 + (nI 2)), .ref l0, .int s0, .ref s1]) bf267_1172 bf267_1173 rfl rfl).trans ?_
  exact bh bf267_1173 bf267_1174 rfl (fun _ _ => am_ge_rf w) rfl
theorem bk267_1208 {w : am_Wd} {l0 : Nat} {l1 : Nat} {l2 : Nat} {l3 : Nat} {l4 : Int32} {s0 : Int32} {s1 : Nat} : am_run 267 1208 [some (.ref l0), some (.ref l1), some (.ref l2), some (.ref l3), some (.int l4), none, none, none] [.int s0, .ref s1] w = (am_x 148 [.ref s1, .int s0, .ref l3] w).bind fun r => bct r fun v w' => am_run 267 1212 [some (.ref l0), some (.ref l1), some (.ref l2), some (.ref l3), some (.int l4), none, none, none] (v.toList ++ []) w' := by
  refine (bu (ls'' := [some (.ref l0), some (.ref l1), some (.ref l2), some (.ref l3), some (.int l4), none, none, none]) (st' := [.ref l3, .int s0, .ref s1]) bf267_1208 bf267_1209 rfl rfl).trans ?_
  exact bkS bf267_1209 bf267_1212 rfl (by decide +kernel) (Nat.le_of_ble_eq_true rfl) rfl (bhd rfl)
theorem bk267_1236 {w : am_Wd} {l0 : Nat} {l1 : Nat} {l2 : Nat} {l3 : Nat} {l4 : Int32} {s0 : Int32} {s1 : Nat} : am_run 267 1236 [some (.ref l0), some (.ref l1), some (.ref l2), some (.ref l3), some (.int l4), none, none, none] [.int s0, .ref s1] w = (am_ri 0 w l0 (l4 + (nI 2))).bind fun v => am_run 267 1242 [some (.ref l0), some (.ref l1), some (.ref l2), some (.ref l3), some (.int l4), none, none, none] (.int v :: [.int s0, .ref s1]) w := by
  refine (bu (ls'' := [some (.ref l0), some (.ref l1), some (.ref l2), some (.ref l3), some (.int l4), none, none, none]) (st' := [.ref l0, .int s0, .ref s1]) bf267_1236 bf267_1237 rfl rfl).trans ?_
  refine (bu (ls'' := [some (.ref l0), some (.ref l1), some (.ref l2), some (.ref l3), some (.int l4), none, none, none]) (st' := [.int l4, .ref l0, .int s0, .ref s1]) bf267_1237 bf267_1239 rfl rfl).trans ?_
  refine (bu (ls'' := [some (.ref l0), some (.ref l1), some (.ref l2), some (.ref l3), some (.int l4), none, none, none]) (st' := [.int (nI 2), .int l4, .ref l0, .int s0, .ref s1]) bf267_1239 bf267_1240 rfl rfl).trans ?_
  refine (bu (ls'' := [some (.ref l0), some (.ref l1), some (.ref l2), some (.ref l3), some (.int l4), none, none, none]) (st' := [.int (l4 + (nI 2)), .ref l0, .int s0, .ref s1]) bf267_1240 bf267_1241 rfl rfl).trans ?_
  exact bh bf267_1241 bf267_1242 rfl (fun _ _ => am_ge_rf w) rfl
theorem bk267_1276 {w : am_Wd} {l0 : Nat} {l1 : Nat} {l2 : Nat} {l3 : Nat} {l4 : Int32} {s0 : Int32} {s1 : Nat} : am_run 267 1276 [some (.ref l0), some (.ref l1), some (.ref l2), some (.ref l3), some (.int l4), none, none, none] [.int s0, .ref s1] w = (am_x 236 [.ref s1, .int s0, .ref l3] w).bind fun r => bct r fun v w' => am_run 267 1280 [some (.ref l0), some (.ref l1), some (.ref l2), some (.ref l3), some (.int l4), none, none, none] (v.toList ++ []) w' := by
  refine (bu (ls'' := [some (.ref l0), some (.ref l1), some (.ref l2), some (.ref l3), some (.int l4), none, none, none]) (st' := [.ref l3, .int s0, .ref s1]) bf267_1276 bf267_1277 rfl rfl).trans ?_
  exact bkS bf267_1277 bf267_1280 rfl (by decide +kernel) (Nat.le_of_ble_eq_true rfl) rfl (bhd rfl)
theorem bk267_1304 {w : am_Wd} {l0 : Nat} {l1 : Nat} {l2 : Nat} {l3 : Nat} {l4 : Int32} {s0 : Int32} {s1 : Nat} : am_run 267 1304 [some (.ref l0), some (.ref l1), some (.ref l2), some (.ref l3), some (.int l4), none, none, none] [.int s0, .ref s1] w = (am_ri 0 w l0 (l4 + (nI 2))).bind fun v => am_run 267 1310 [some (.ref l0), some (.ref l1), some (.ref l2), some (.ref l3), some (.int l4), none, none, none] (.int v :: [.int s0, .ref s1]) w := by
  refine (bu (ls'' := [some (.ref l0), some (.ref l1), some (.ref l2), some (.ref l3), some (.int l4), none, none, none]) (st' := [.ref l0, .int s0, .ref s1]) bf267_1304 bf267_1305 rfl rfl).trans ?_
  refine (bu (ls'' := [some (.ref l0), some (.ref l1), some (.ref l2), some (.ref l3), some (.int l4), none, none, none]) (st' := [.int l4, .ref l0, .int s0, .ref s1]) bf267_1305 bf267_1307 rfl rfl).trans ?_
  refine (bu (ls'' := [some (.ref l0), some (.ref l1), some (.ref l2), some (.ref l3), some (.int l4), none, none, none]) (st' := [.int (nI 2), .int l4, .ref l0, .int s0, .ref s1]) bf267_1307 bf267_1308 rfl rfl).trans ?_
  refine (bu (ls'' := [some (.ref l0), some (.ref l1), some (.ref l2), some (.ref l3), some (.int l4), none, none, none]) (st' := [.int (l4 + (nI 2)), .ref l0, .int s0, .ref s1]) bf267_1308 bf267_1309 rfl rfl).trans ?_
  exact bh bf267_1309 bf267_1310 rfl (fun _ _ => am_ge_rf w) rfl
theorem bk267_1344 {w : am_Wd} {l0 : Nat} {l1 : Nat} {l2 : Nat} {l3 : Nat} {l4 : Int32} {s0 : Int32} {s1 : Nat} : am_run 267 1344 [some (.ref l0), some (.ref l1), some (.ref l2), some (.ref l3), some (.int l4), none, none, none] [.int s0, .ref s1] w = (am_ri 0 w l0 (l4 + (nI 2))).bind fun v => am_run 267 1350 [some (.ref l0), some (.ref l1), some (.ref l2), some (.ref l3), some (.int l4), none, none, none] (.int v :: [.int s0, .ref s1]) w := by
  refine (bu (ls'' := [some (.ref l0), some (.ref l1), some (.ref l2), some (.ref l3), some (.int l4), none, none, none]) (st' := [.ref l0, .int s0, .ref s1]) bf267_1344 bf267_1345 rfl rfl).trans ?_
  refine (bu (ls'' := [some (.ref l0), some (.ref l1), some (.ref l2), some (.ref l3), some (.int l4), none, none, none]) (st' := [.int l4, .ref l0, .int s0, .ref s1]) bf267_1345 bf267_1347 rfl rfl).trans ?_
  refine (bu (ls'' := [some (.ref l0), some (.ref l1), some (.ref l2), some (.ref l3), some (.int l4), none, none, none]) (st' := [.int (nI 2), .int l4, .ref l0, .int s0, .ref s1]) bf267_1347 bf267_1348 rfl rfl).trans ?_
  refine (bu (ls'' := [some (.ref l0), some (.ref l1), some (.ref l2), some (.ref l3), some (.int l4), none, none, none]) (st' := [.int (l4 + (nI 2)), .ref l0, .int s0, .ref s1]) bf267_1348 bf267_1349 rfl rfl).trans ?_
  exact bh bf267_1349 bf267_1350 rfl (fun _ _ => am_ge_rf w) rfl
theorem bk267_1410 {w : am_Wd} {l0 : Nat} {l1 : Nat} {l2 : Nat} {l3 : Nat} {l4 : Int32} {s0 : Int32} : am_run 267 1410 [some (.ref l0), some (.ref l1), some (.ref l2), some (.ref l3), some (.int l4), none, none, none] [.int s0] w = (am_kf w l2 11).bind fun _ => (am_x 215 [.ref l2] w).bind fun r => bct r fun v w' => am_run 267 1415 [some (.ref l0), some (.ref l1), some (.ref l2), some (.ref l3), some (.int l4), none, none, none] (v.toList ++ []) w' := by
  refine (bu (ls'' := [some (.ref l0), some (.ref l1), some (.ref l2), some (.ref l3), some (.int l4), none, none, none]) (st' := []) bf267_1410 bf267_1411 rfl rfl).trans ?_
  refine (bu (ls'' := [some (.ref l0), some (.ref l1), some (.ref l2), some (.ref l3), some (.int l4), none, none, none]) (st' := [.ref l2]) bf267_1411 bf267_1412 rfl rfl).trans ?_
  exact bkV bf267_1412 bf267_1415 rfl (by decide +kernel) (Nat.le_of_ble_eq_true rfl) rfl (bhd rfl)
theorem bk267_1423 {w : am_Wd} {l0 : Nat} {l1 : Nat} {l2 : Nat} {l3 : Nat} {l4 : Int32} {s0 : Int64} : am_run 267 1423 [some (.ref l0), some (.ref l1), some (.ref l2), some (.ref l3), some (.int l4), none, none, none] [.long s0] w = (am_kf w l2 11).bind fun _ => (am_x 265 [.ref l2] w).bind fun r => bct r fun v w' => am_run 267 1428 [some (.ref l0), some (.ref l1), some (.ref l2), some (.ref l3), some (.int l4), none, none, none] (v.toList ++ []) w' := by
  refine (bu (ls'' := [some (.ref l0), some (.ref l1), some (.ref l2), some (.ref l3), some (.int l4), none, none, none]) (st' := []) bf267_1423 bf267_1424 rfl rfl).trans ?_
  refine (bu (ls'' := [some (.ref l0), some (.ref l1), some (.ref l2), some (.ref l3), some (.int l4), none, none, none]) (st' := [.ref l2]) bf267_1424 bf267_1425 rfl rfl).trans ?_
  exact bkV bf267_1425 bf267_1428 rfl (by decide +kernel) (Nat.le_of_ble_eq_true rfl) rfl (bhd rfl)
theorem bk267_185 {w : am_Wd} {l0 : Nat} {l1 : Nat} {l2 : Nat} {l3 : Nat} {l4 : Int32} {s0 : Int32} {s1 : Int32} {s2 : Nat} : am_run 267 185 [some (.ref l0), some (.ref l1), some (.ref l2), some (.ref l3), some (.int l4), none, none, none] [.int s0, .int s1, .ref s2] w = (am_ri 0 w l0 (l4 + (nI 3))).bind fun v => am_run 267 191 [some (.ref l0), some (.ref l1), some (.ref l2), some (.ref l3), some (.int l4), none, none, none] (.int v :: [.int s0, .int s1, .ref s2]) w := by
  refine (bu (ls'' := [some (.ref l0), some (.ref l1), some (.ref l2), some (.ref l3), some (.int l4), none, none, none]) (st' := [.ref l0, .int s0, .int s1, .ref s2]) bf267_185 bf267_186 rfl rfl).trans ?_
  refine (bu (ls'' := [some (.ref l0), some (.ref l1), some (.ref l2), some (.ref l3), some (.int l4), none, none, none]) (st' := [.int l4, .ref l0, .int s0, .int s1, .ref s2]) bf267_186 bf267_188 rfl rfl).trans ?_
  refine (bu (ls'' := [some (.ref l0), some (.ref l1), some (.ref l2), some (.ref l3), some (.int l4), none, none, none]) (st' := [.int (nI 3), .int l4, .ref l0, .int s0, .int s1, .ref s2]) bf267_188 bf267_189 rfl rfl).trans ?_
  refine (bu (ls'' := [some (.ref l0), some (.ref l1), some (.ref l2), some (.ref l3), some (.int l4), none, none, none]) (st' := [.int (l4 + (nI 3)), .ref l0, .int s0, .int s1, .ref s2]) bf267_189 bf267_190 rfl rfl).trans ?_
  exact bh bf267_190 bf267_191 rfl (fun _ _ => am_ge_rf w) rfl
theorem bk267_247 {w : am_Wd} {l0 : Nat} {l1 : Nat} {l2 : Nat} {l3 : Nat} {l4 : Int32} {s0 : Int32} : am_run 267 247 [some (.ref l0), some (.ref l1), some (.ref l2), some (.ref l3), some (.int l4), none, none, none] [.int s0] w = (am_ri 0 w l0 (l4 + (nI 1))).bind fun v => am_run 267 256 [some (.ref l0), some (.ref l1), some (.ref l2), some (.ref l3), some (.int l4), none, none, none] (.int v :: [.ref l2]) w := by
  refine (bu (ls'' := [some (.ref l0), some (.ref l1), some (.ref l2), some (.ref l3), some (.int l4), none, none, none]) (st' := []) bf267_247 bf267_249 rfl rfl).trans ?_
  refine (bu (ls'' := [some (.ref l0), some (.ref l1), some (.ref l2), some (.ref l3), some (.int l4), none, none, none]) (st' := [.ref l2]) bf267_249 bf267_250 rfl rfl).trans ?_
  refine (bu (ls'' := [some (.ref l0), some (.ref l1), some (.ref l2), some (.ref l3), some (.int l4), none, none, none]) (st' := [.ref l0, .ref l2]) bf267_250 bf267_251 rfl rfl).trans ?_
  refine (bu (ls'' := [some (.ref l0), some (.ref l1), some (.ref l2), some (.ref l3), some (.int l4), none, none, none]) (st' := [.int l4, .ref l0, .ref l2]) bf267_251 bf267_253 rfl rfl).trans ?_
  refine (bu (ls'' := [some (.ref l0), some (.ref l1), some (.ref l2), some (.ref l3), some (.int l4), none, none, none]) (st' := [.int (nI 1), .int l4, .ref l0, .ref l2]) bf267_253 bf267_254 rfl rfl).trans ?_
  refine (bu (ls'' := [some (.ref l0), some (.ref l1), some (.ref l2), some (.ref l3), some (.int l4), none, none, none]) (st' := [.int (l4 + (nI 1)), .ref l0, .ref l2]) bf267_254 bf267_255 rfl rfl).trans ?_
  exact bh bf267_255 bf267_256 rfl (fun _ _ => am_ge_rf w) rfl
theorem bk267_277 {w : am_Wd} {l0 : Nat} {l1 : Nat} {l2 : Nat} {l3 : Nat} {l4 : Int32} {s0 : Int32} {s1 : Int32} {s2 : Nat} : am_run 267 277 [some (.ref l0), some (.ref l1), some (.ref l2), some (.ref l3), some (.int l4), none, none, none] [.int s0, .int s1, .ref s2] w = if s0 = nI 0 then am_run 267 284 [some (.ref l0), some (.ref l1), some (.ref l2), some (.ref l3), some (.int l4), none, none, none] [.int s1, .ref s2] w else am_run 267 280 [some (.ref l0), some (.ref l1), some (.ref l2), some (.ref l3), some (.int l4), none, none, none] [.int s1, .ref s2] w := by
  exact bifc bf267_277 rfl bf267_284 bf267_280 rfl rfl rfl
theorem bk267_361 {w : am_Wd} {l0 : Nat} {l1 : Nat} {l2 : Nat} {l3 : Nat} {l4 : Int32} {s0 : Int32} {s1 : Int32} {s2 : Nat} : am_run 267 361 [some (.ref l0), some (.ref l1), some (.ref l2), some (.ref l3), some (.int l4), none, none, none] [.int s0, .int s1, .ref s2] w = (am_ri 0 w l0 (l4 + (nI 3))).bind fun v => am_run 267 367 [some (.ref l0), some (.ref l1), some (.ref l2), some (.ref l3), some (.int l4), none, none, none] (.int v :: [.int s0, .int s1, .ref s2]) w := by
  refine (bu (ls'' := [some (.ref l0), some (.ref l1), some (.ref l2), some (.ref l3), some (.int l4), none, none, none]) (st' := [.ref l0, .int s0, .int s1, .ref s2]) bf267_361 bf267_362 rfl rfl).trans ?_
  refine (bu (ls'' := [some (.ref l0), some (.ref l1), some (.ref l2), some (.ref l3), some (.int l4), none, none, none]) (st' := [.int l4, .ref l0, .int s0, .int s1, .ref s2]) bf267_362 bf267_364 rfl rfl).trans ?_
  refine (bu (ls'' := [some (.ref l0), some (.ref l1), some (.ref l2), some (.ref l3), some (.int l4), none, none, none]) (st' := [.int (nI 3), .int l4, .ref l0, .int s0, .int s1, .ref s2]) bf267_364 bf267_365 rfl rfl).trans ?_
  refine (bu (ls'' := [some (.ref l0), some (.ref l1), some (.ref l2), some (.ref l3), some (.int l4), none, none, none]) (st' := [.int (l4 + (nI 3)), .ref l0, .int s0, .int s1, .ref s2]) bf267_365 bf267_366 rfl rfl).trans ?_
  exact bh bf267_366 bf267_367 rfl (fun _ _ => am_ge_rf w) rfl
theorem bk267_441 {w : am_Wd} {l0 : Nat} {l1 : Nat} {l2 : Nat} {l3 : Nat} {l4 : Int32} {s0 : Int32} {s1 : Int32} {s2 : Nat} : am_run 267 441 [some (.ref l0), some (.ref l1), some (.ref l2), some (.ref l3), some (.int l4), none, none, none] [.int s0, .int s1, .ref s2] w = if s0 = nI 0 then am_run 267 448 [some (.ref l0), some (.ref l1), some (.ref l2), some (.ref l3), some (.int l4), none, none, none] [.int s1, .ref s2] w else am_run 267 444 [some (.ref l0), some (.ref l1), some (.ref l2), some (.ref l3), some (.int l4), none, none, none] [.int s1, .ref s2] w := by
  exact bifc bf267_441 rfl bf267_448 bf267_444 rfl rfl rfl
theorem bk267_497 {w : am_Wd} {l0 : Nat} {l1 : Nat} {l2 : Nat} {l3 : Nat} {l4 : Int32} {s0 : Int32} {s1 : Int32} {s2 : Nat} : am_run 267 497 [some (.ref l0), some (.ref l1), some (.ref l2), some (.ref l3), some (.int l4), none, none, none] [.int s0, .int s1, .ref s2] w = if s0 = nI 0 then am_run 267 504 [some (.ref l0), some (.ref l1), some (.ref l2), some (.ref l3), some (.int l4), none, none, none] [.int s1, .ref s2] w else am_run 267 500 [some (.ref l0), some (.ref l1), some (.ref l2), some (.ref l3), some (.int l4), none, none, none] [.int s1, .ref s2] w := by
  exact bifc bf267_497 rfl bf267_504 bf267_500 rfl rfl rfl
theorem bk267_581 {w : am_Wd} {l0 : Nat} {l1 : Nat} {l2 : Nat} {l3 : Nat} {l4 : Int32} {s0 : Int32} {s1 : Int32} {s2 : Nat} : am_run 267 581 [some (.ref l0), some (.ref l1), some (.ref l2), some (.ref l3), some (.int l4), none, none, none] [.int s0, .int s1, .ref s2] w = if s0 = nI 0 then am_run 267 588 [some (.ref l0), some (.ref l1), some (.ref l2), some (.ref l3), some (.int l4), none, none, none] [.int s1, .ref s2] w else am_run 267 584 [some (.ref l0), some (.ref l1), some (.ref l2), some (.ref l3), some (.int l4), none, none, none] [.int s1, .ref s2] w := by
  exact bifc bf267_581 rfl bf267_588 bf267_584 rfl rfl rfl
theorem bk267_637 {w : am_Wd} {l0 : Nat} {l1 : Nat} {l2 : Nat} {l3 : Nat} {l4 : Int32} {s0 : Int32} {s1 : Int32} {s2 : Nat} : am_run 267 637 [some (.ref l0), some (.ref l1), some (.ref l2), some (.ref l3), some (.int l4), none, none, none] [.int s0, .int s1, .ref s2] w = if s0 = nI 0 then am_run 267 644 [some (.ref l0), some (.ref l1), some (.ref l2), some (.ref l3), some (.int l4), none, none, none] [.int s1, .ref s2] w else am_run 267 640 [some (.ref l0), some (.ref l1), some (.ref l2), some (.ref l3), some (.int l4), none, none, none] [.int s1, .ref s2] w := by
  exact bifc bf267_637 rfl bf267_644 bf267_640 rfl rfl rfl
theorem bk267_693 {w : am_Wd} {l0 : Nat} {l1 : Nat} {l2 : Nat} {l3 : Nat} {l4 : Int32} {s0 : Int32} {s1 : Int32} {s2 : Nat} : am_run 267 693 [some (.ref l0), some (.ref l1), some (.ref l2), some (.ref l3), some (.int l4), none, none, none] [.int s0, .int s1, .ref s2] w = (am_x 187 [.ref s2, .int s1, .int s0, .ref l3] w).bind fun r => bct r fun v w' => am_run 267 697 [some (.ref l0), some (.ref l1), some (.ref l2), some (.ref l3), some (.int l4), none, none, none] (v.toList ++ []) w' := by
  refine (bu (ls'' := [some (.ref l0), some (.ref l1), some (.ref l2), some (.ref l3), some (.int l4), none, none, none]) (st' := [.ref l3, .int s0, .int s1, .ref s2]) bf267_693 bf267_694 rfl rfl).trans ?_
  exact bkS bf267_694 bf267_697 rfl (by decide +kernel) (Nat.le_of_ble_eq_true rfl) rfl (bhd rfl)
theorem bk267_731 {w : am_Wd} {l0 : Nat} {l1 : Nat} {l2 : Nat} {l3 : Nat} {l4 : Int32} {s0 : Int32} : am_run 267 731 [some (.ref l0), some (.ref l1), some (.ref l2), some (.ref l3), some (.int l4), none, none, none] [.int s0] w = (am_ri 0 w l0 (l4 + (nI 1))).bind fun v => am_run 267 740 [some (.ref l0), some (.ref l1), some (.ref l2), some (.ref l3), some (.int l4), none, none, none] (.int v :: [.ref l2]) w := by
  refine (bu (ls'' := [some (.ref l0), some (.ref l1), some (.ref l2), some (.ref l3), some (.int l4), none, none, none]) (st' := []) bf267_731 bf267_733 rfl rfl).trans ?_
  refine (bu (ls'' := [some (.ref l0), some (.ref l1), some (.ref l2), some (.ref l3), some (.int l4), none, none, none]) (st' := [.ref l2]) bf267_733 bf267_734 rfl rfl).trans ?_
  refine (bu (ls'' := [some (.ref l0), some (.ref l1), some (.ref l2), some (.ref l3), some (.int l4), none, none, none]) (st' := [.ref l0, .ref l2]) bf267_734 bf267_735 rfl rfl).trans ?_
  refine (bu (ls'' := [some (.ref l0), some (.ref l1), some (.ref l2), some (.ref l3), some (.int l4), none, none, none]) (st' := [.int l4, .ref l0, .ref l2]) bf267_735 bf267_737 rfl rfl).trans ?_
  refine (bu (ls'' := [some (.ref l0), some (.ref l1), some (.ref l2), some (.ref l3), some (.int l4), none, none, none]) (st' := [.int (nI 1), .int l4, .ref l0, .ref l2]) bf267_737 bf267_738 rfl rfl).trans ?_
  refine (bu (ls'' := [some (.ref l0), some (.ref l1), some (.ref l2), some (.ref l3), some (.int l4), none, none, none]) (st' := [.int (l4 + (nI 1)), .ref l0, .ref l2]) bf267_738 bf267_739 rfl rfl).trans ?_
  exact bh bf267_739 bf267_740 rfl (fun _ _ => am_ge_rf w) rfl
theorem bk267_761 {w : am_Wd} {l0 : Nat} {l1 : Nat} {l2 : Nat} {l3 : Nat} {l4 : Int32} {s0 : Int32} {s1 : Int32} {s2 : Nat} : am_run 267 761 [some (.ref l0), some (.ref l1), some (.ref l2), some (.ref l3), some (.int l4), none, none, none] [.int s0, .int s1, .ref s2] w = (am_x 218 [.ref s2, .int s1, .int s0, .ref l3] w).bind fun r => bct r fun v w' => am_run 267 765 [some (.ref l0), some (.ref l1), some (.ref l2), some (.ref l3), some (.int l4), none, none, none] (v.toList ++ []) w' := by
  refine (bu (ls'' := [some (.ref l0), some (.ref l1), some (.ref l2), some (.ref l3), some (.int l4), none, none, none]) (st' := [.ref l3, .int s0, .int s1, .ref s2]) bf267_761 bf267_762 rfl rfl).trans ?_
  exact bkS bf267_762 bf267_765 rfl (by decide +kernel) (Nat.le_of_ble_eq_true rfl) rfl (bhd rfl)
theorem bk267_799 {w : am_Wd} {l0 : Nat} {l1 : Nat} {l2 : Nat} {l3 : Nat} {l4 : Int32} {s0 : Int32} : am_run 267 799 [some (.ref l0), some (.ref l1), some (.ref l2), some (.ref l3), some (.int l4), none, none, none] [.int s0] w = (am_ri 0 w l0 (l4 + (nI 1))).bind fun v => am_run 267 808 [some (.ref l0), some (.ref l1), some (.ref l2), some (.ref l3), some (.int l4), none, none, none] (.int v :: [.ref l2]) w := by
  refine (bu (ls'' := [some (.ref l0), some (.ref l1), some (.ref l2), some (.ref l3), some (.int l4), none, none, none]) (st' := []) bf267_799 bf267_801 rfl rfl).trans ?_
  refine (bu (ls'' := [some (.ref l0), some (.ref l1), some (.ref l2), some (.ref l3), some (.int l4), none, none, none]) (st' := [.ref l2]) bf267_801 bf267_802 rfl rfl).trans ?_
  refine (bu (ls'' := [some (.ref l0), some (.ref l1), some (.ref l2), some (.ref l3), some (.int l4), none, none, none]) (st' := [.ref l0, .ref l2]) bf267_802 bf267_803 rfl rfl).trans ?_
  refine (bu (ls'' := [some (.ref l0), some (.ref l1), some (.ref l2), some (.ref l3), some (.int l4), none, none, none]) (st' := [.int l4, .ref l0, .ref l2]) bf267_803 bf267_805 rfl rfl).trans ?_
  refine (bu (ls'' := [some (.ref l0), some (.ref l1), some (.ref l2), some (.ref l3), some (.int l4), none, none, none]) (st' := [.int (nI 1), .int l4, .ref l0, .ref l2]) bf267_805 bf267_806 rfl rfl).trans ?_
  refine (bu (ls'' := [some (.ref l0), some (.ref l1), some (.ref l2), some (.ref l3), some (.int l4), none, none, none]) (st' := [.int (l4 + (nI 1)), .ref l0, .ref l2]) bf267_806 bf267_807 rfl rfl).trans ?_
  exact bh bf267_807 bf267_808 rfl (fun _ _ => am_ge_rf w) rfl
theorem bk267_825 {w : am_Wd} {l0 : Nat} {l1 : Nat} {l2 : Nat} {l3 : Nat} {l4 : Int32} {s0 : Int32} : am_run 267 825 [some (.ref l0), some (.ref l1), some (.ref l2), some (.ref l3), some (.int l4), none, none, none] [.int s0] w = am_run 267 1432 [some (.ref l0), some (.ref l1), some (.ref l2), some (.ref l3), some (.int l4), none, none, none] [] w := by
  refine (bu (ls'' := [some (.ref l0), some (.ref l1), some (.ref l2), some (.ref l3), some (.int l4), none, none, none]) (st' := []) bf267_825 bf267_826 rfl rfl).trans ?_
  refine (bu (ls'' := [some (.ref l0), some (.ref l1), some (.ref l2), some (.ref l3), some (.int l4), none, none, none]) (st' := []) bf267_826 bf267_1432 rfl rfl).trans ?_
  rfl
theorem bk267_842 {w : am_Wd} {l0 : Nat} {l1 : Nat} {l2 : Nat} {l3 : Nat} {l4 : Int32} {s0 : Int32} {s1 : Int32} {s2 : Nat} : am_run 267 842 [some (.ref l0), some (.ref l1), some (.ref l2), some (.ref l3), some (.int l4), none, none, none] [.int s0, .int s1, .ref s2] w = (am_ri 0 w l0 (l4 + (nI 3))).bind fun v => am_run 267 848 [some (.ref l0), some (.ref l1), some (.ref l2), some (.ref l3), some (.int l4), none, none, none] (.int v :: [.int s0, .int s1, .ref s2]) w := by
  refine (bu (ls'' := [some (.ref l0), some (.ref l1), some (.ref l2), some (.ref l3), some (.int l4), none, none, none]) (st' := [.ref l0, .int s0, .int s1, .ref s2]) bf267_842 bf267_843 rfl rfl).trans ?_
  refine (bu (ls'' := [some (.ref l0), some (.ref l1), some (.ref l2), some (.ref l3), some (.int l4), none, none, none]) (st' := [.int l4, .ref l0, .int s0, .int s1, .ref s2]) bf267_843 bf267_845 rfl rfl).trans ?_
  refine (bu (ls'' := [some (.ref l0), some (.ref l1), some (.ref l2), some (.ref l3), some (.int l4), none, none, none]) (st' := [.int (nI 3), .int l4, .ref l0, .int s0, .int s1, .ref s2]) bf267_845 bf267_846 rfl rfl).trans ?_
  refine (bu (ls'' := [some (.ref l0), some (.ref l1), some (.ref l2), some (.ref l3), some (.int l4), none, none, none]) (st' := [.int (l4 + (nI 3)), .ref l0, .int s0, .int s1, .ref s2]) bf267_846 bf267_847 rfl rfl).trans ?_
  exact bh bf267_847 bf267_848 rfl (fun _ _ => am_ge_rf w) rfl
theorem bk267_894 {w : am_Wd} {l0 : Nat} {l1 : Nat} {l2 : Nat} {l3 : Nat} {l4 : Int32} {s0 : Int32} {s1 : Int32} {s2 : Nat} : am_run 267 894 [some (.ref l0), some (.ref l1), some (.ref l2), some (.ref l3), some (.int l4), none, none, none] [.int s0, .int s1, .ref s2] w = (am_x 234 [.ref s2, .int s1, .int s0, .ref l3] w).bind fun r => bct r fun v w' => am_run 267 898 [some (.ref l0), some (.ref l1), some (.ref l2), some (.ref l3), some (.int l4), none, none, none] (v.toList ++ []) w' := by
  refine (bu (ls'' := [some (.ref l0), some (.ref l1), some (.ref l2), some (.ref l3), some (.int l4), none, none, none]) (st' := [.ref l3, .int s0, .int s1, .ref s2]) bf267_894 bf267_895 rfl rfl).trans ?_
  exact bkS bf267_895 bf267_898 rfl (by decide +kernel) (Nat.le_of_ble_eq_true rfl) rfl (bhd rfl)
theorem bk267_932 {w : am_Wd} {l0 : Nat} {l1 : Nat} {l2 : Nat} {l3 : Nat} {l4 : Int32} {s0 : Int32} : am_run 267 932 [some (.ref l0), some (.ref l1), some (.ref l2), some (.ref l3), some (.int l4), none, none, none] [.int s0] w = (am_ri 0 w l0 (l4 + (nI 1))).bind fun v => am_run 267 941 [some (.ref l0), some (.ref l1), some (.ref l2), some (.ref l3), some (.int l4), none, none, none] (.int v :: [.ref l2]) w := by
  refine (bu (ls'' := [some (.ref l0), some (.ref l1), some (.ref l2), some (.ref l3), some (.int l4), none, none, none]) (st' := []) bf267_932 bf267_934 rfl rfl).trans ?_
  refine (bu (ls'' := [some (.ref l0), some (.ref l1), some (.ref l2), some (.ref l3), some (.int l4), none, none, none]) (st' := [.ref l2]) bf267_934 bf267_935 rfl rfl).trans ?_
  refine (bu (ls'' := [some (.ref l0), some (.ref l1), some (.ref l2), some (.ref l3), some (.int l4), none, none, none]) (st' := [.ref l0, .ref l2]) bf267_935 bf267_936 rfl rfl).trans ?_
  refine (bu (ls'' := [some (.ref l0), some (.ref l1), some (.ref l2), some (.ref l3), some (.int l4), none, none, none]) (st' := [.int l4, .ref l0, .ref l2]) bf267_936 bf267_938 rfl rfl).trans ?_
  refine (bu (ls'' := [some (.ref l0), some (.ref l1), some (.ref l2), some (.ref l3), some (.int l4), none, none, none]) (st' := [.int (nI 1), .int l4, .ref l0, .ref l2]) bf267_938 bf267_939 rfl rfl).trans ?_
  refine (bu (ls'' := [some (.ref l0), some (.ref l1), some (.ref l2), some (.ref l3), some (.int l4), none, none, none]) (st' := [.int (l4 + (nI 1)), .ref l0, .ref l2]) bf267_939 bf267_940 rfl rfl).trans ?_
  exact bh bf267_940 bf267_941 rfl (fun _ _ => am_ge_rf w) rfl
theorem bk267_960 {w : am_Wd} {l0 : Nat} {l1 : Nat} {l2 : Nat} {l3 : Nat} {l4 : Int32} {s0 : Int32} : am_run 267 960 [some (.ref l0), some (.ref l1), some (.ref l2), some (.ref l3), some (.int l4), none, none, none] [.int s0] w = (am_ri 0 w l0 (l4 + (nI 1))).bind fun v => am_run 267 969 [some (.ref l0), some (.ref l1), some (.ref l2), some (.ref l3), some (.int l4), none, none, none] (.int v :: [.ref l2]) w := by
  refine (bu (ls'' := [some (.ref l0), some (.ref l1), some (.ref l2), some (.ref l3), some (.int l4), none, none, none]) (st' := []) bf267_960 bf267_962 rfl rfl).trans ?_
  refine (bu (ls'' := [some (.ref l0), some (.ref l1), some (.ref l2), some (.ref l3), some (.int l4), none, none, none]) (st' := [.ref l2]) bf267_962 bf267_963 rfl rfl).trans ?_
  refine (bu (ls'' := [some (.ref l0), some (.ref l1), some (.ref l2), some (.ref l3), some (.int l4), none, none, none]) (st' := [.ref l0, .ref l2]) bf267_963 bf267_964 rfl rfl).trans ?_
  refine (bu (ls'' := [some (.ref l0), some (.ref l1), some (.ref l2), some (.ref l3), some (.int l4), none, none, none]) (st' := [.int l4, .ref l0, .ref l2]) bf267_964 bf267_966 rfl rfl).trans ?_
  refine (bu (ls'' := [some (.ref l0), some (.ref l1), some (.ref l2), some (.ref l3), some (.int l4), none, none, none]) (st' := [.int (nI 1), .int l4, .ref l0, .ref l2]) bf267_966 bf267_967 rfl rfl).trans ?_
  refine (bu (ls'' := [some (.ref l0), some (.ref l1), some (.ref l2), some (.ref l3), some (.int l4), none, none, none]) (st' := [.int (l4 + (nI 1)), .ref l0, .ref l2]) bf267_967 bf267_968 rfl rfl).trans ?_
  exact bh bf267_968 bf267_969 rfl (fun _ _ => am_ge_rf w) rfl
theorem bk267_990 {w : am_Wd} {l0 : Nat} {l1 : Nat} {l2 : Nat} {l3 : Nat} {l4 : Int32} {s0 : Int32} {s1 : Int32} {s2 : Nat} : am_run 267 990 [some (.ref l0), some (.ref l1), some (.ref l2), some (.ref l3), some (.int l4), none, none, none] [.int s0, .int s1, .ref s2] w = (am_ri 0 w l0 (l4 + (nI 3))).bind fun v => am_run 267 996 [some (.ref l0), some (.ref l1), some (.ref l2), some (.ref l3), some (.int l4), none, none, none] (.int v :: [.int s0, .int s1, .ref s2]) w := by
  refine (bu (ls'' := [some (.ref l0), some (.ref l1), some (.ref l2), some (.ref l3), some (.int l4), none, none, none]) (st' := [.ref l0, .int s0, .int s1, .ref s2]) bf267_990 bf267_991 rfl rfl).trans ?_
  refine (bu (ls'' := [some (.ref l0), some (.ref l1), some (.ref l2), some (.ref l3), some (.int l4), none, none, none]) (st' := [.int l4, .ref l0, .int s0, .int s1, .ref s2]) bf267_991 bf267_993 rfl rfl).trans ?_
  refine (bu (ls'' := [some (.ref l0), some (.ref l1), some (.ref l2), some (.ref l3), some (.int l4), none, none, none]) (st' := [.int (nI 3), .int l4, .ref l0, .int s0, .int s1, .ref s2]) bf267_993 bf267_994 rfl rfl).trans ?_
  refine (bu (ls'' := [some (.ref l0), some (.ref l1), some (.ref l2), some (.ref l3), some (.int l4), none, none, none]) (st' := [.int (l4 + (nI 3)), .ref l0, .int s0, .int s1, .ref s2]) bf267_994 bf267_995 rfl rfl).trans ?_
  exact bh bf267_995 bf267_996 rfl (fun _ _ => am_ge_rf w) rfl
theorem bk267_1042 {w : am_Wd} {l0 : Nat} {l1 : Nat} {l2 : Nat} {l3 : Nat} {l4 : Int32} {s0 : Int32} {s1 : Int32} {s2 : Nat} : am_run 267 1042 [some (.ref l0), some (.ref l1), some (.ref l2), some (.ref l3), some (.int l4), none, none, none] [.int s0, .int s1, .ref s2] w = (am_x 192 [.ref s2, .int s1, .int s0, .ref l3] w).bind fun r => bct r fun v w' => am_run 267 1046 [some (.ref l0), some (.ref l1), some (.ref l2), some (.ref l3), some (.int l4), none, none, none] (v.toList ++ []) w' := by
  refine (bu (ls'' := [some (.ref l0), some (.ref l1), some (.ref l2), some (.ref l3), some (.int l4), none, none, none]) (st' := [.ref l3, .int s0, .int s1, .ref s2]) bf267_1042 bf267_1043 rfl rfl).trans ?_
  exact bkS bf267_1043 bf267_1046 rfl (by decide +kernel) (Nat.le_of_ble_eq_true rfl) rfl (bhd rfl)
theorem bk267_1082 {w : am_Wd} {l0 : Nat} {l1 : Nat} {l2 : Nat} {l3 : Nat} {l4 : Int32} {s0 : Int32} {s1 : Int32} {s2 : Nat} : am_run 267 1082 [some (.ref l0), some (.ref l1), some (.ref l2), some (.ref l3), some (.int l4), none, none, none] [.int s0, .int s1, .ref s2] w = (am_x 193 [.ref s2, .int s1, .int s0, .ref l3] w).bind fun r => bct r fun v w' => am_run 267 1086 [some (.ref l0), some (.ref l1), some (.ref l2), some (.ref l3), some (.int l4), none, none, none] (v.toList ++ []) w' := by
  refine (bu (ls'' := [some (.ref l0), some (.ref l1), some (.ref l2), some (.ref l3), some (.int l4), none, none, none]) (st' := [.ref l3, .int s0, .int s1, .ref s2]) bf267_1082 bf267_1083 rfl rfl).trans ?_
  exact bkS bf267_1083 bf267_1086 rfl (by decide +kernel) (Nat.le_of_ble_eq_true rfl) rfl (bhd rfl)
theorem bk267_1122 {w : am_Wd} {l0 : Nat} {l1 : Nat} {l2 : Nat} {l3 : Nat} {l4 : Int32} {s0 : Int32} {s1 : Int32} {s2 : Nat} : am_run 267 1122 [some (.ref l0), some (.ref l1), some (.ref l2), some (.ref l3), some (.int l4), none, none, none] [.int s0, .int s1, .ref s2] w = (am_ri 0 w l0 (l4 + (nI 3))).bind fun v => am_run 267 1128 [some (.ref l0), some (.ref l1), some (.ref l2), some (.ref l3), some (.int l4), none, none, none] (.int v :: [.int s0, .int s1, .ref s2]) w := by
  refine (bu (ls'' := [some (.ref l0), some (.ref l1), some (.ref l2), some (.ref l3), some (.int l4), none, none, none]) (st' := [.ref l0, .int s0, .int s1, .ref s2]) bf267_1122 bf267_1123 rfl rfl).trans ?_
  refine (bu (ls'' := [some (.ref l0), some (.ref l1), some (.ref l2), some (.ref l3), some (.int l4), none, none, none]) (st' := [.int l4, .ref l0, .int s0, .int s1, .ref s2]) bf267_1123 bf267_1125 rfl rfl).trans ?_
  refine (bu (ls'' := [some (.ref l0), some (.ref l1), some (.ref l2), some (.ref l3), some (.int l4), none, none, none]) (st' := [.int (nI 3), .int l4, .ref l0, .int s0, .int s1, .ref s2]) bf267_1125 bf267_1126 rfl rfl).trans ?_
  refine (bu (ls'' := [some (.ref l0), some (.ref l1), some (.ref l2), some (.ref l3), some (.int l4), none, none, none]) (st' := [.int (l4 + (nI 3)), .ref l0, .int s0, .int s1, .ref s2]) bf267_1126 bf267_1127 rfl rfl).trans ?_
  exact bh bf267_1127 bf267_1128 rfl (fun _ _ => am_ge_rf w) rfl
theorem bk267_1174 {w : am_Wd} {l0 : Nat} {l1 : Nat} {l2 : Nat} {l3 : Nat} {l4 : Int32} {s0 : Int32} {s1 : Int32} {s2 : Nat} : am_run 267 1174 [some (.ref l0), some (.ref l1), some (.ref l2), some (.ref l3), some (.int l4), none, none, none] [.int s0, .int s1, .ref s2] w = (am_x 249 [.ref s2, .int s1, .int s0, .ref l3] w).bind fun r => bct r fun v w' => am_run 267 1178 [some (.ref l0), some (.ref l1), some (.ref l2), some (.ref l3), some (.int l4), none, none, none] (v.toList ++ []) w' := by
  refine (bu (ls'' := [some (.ref l0), some (.ref l1), some (.ref l2), some (.ref l3), some (.int l4), none, none, none]) (st' := [.ref l3, .int s0, .int s1, .ref s2]) bf267_1174 bf267_1175 rfl rfl).trans ?_
  exact bkS bf267_1175 bf267_1178 rfl (by decide +kernel) (Nat.le_of_ble_eq_true rfl) rfl (bhd rfl)
theorem bk267_1212 {w : am_Wd} {l0 : Nat} {l1 : Nat} {l2 : Nat} {l3 : Nat} {l4 : Int32} {s0 : Int32} : am_run 267 1212 [some (.ref l0), some (.ref l1), some (.ref l2), some (.ref l3), some (.int l4), none, none, none] [.int s0] w = (am_ri 0 w l0 (l4 + (nI 1))).bind fun v => am_run 267 1221 [some (.ref l0), some (.ref l1), some (.ref l2), some (.ref l3), some (.int l4), none, none, none] (.int v :: [.ref l2]) w := by
  refine (bu (ls'' := [some (.ref l0), some (.ref l1), some (.ref l2), some (.ref l3), some (.int l4), none, none, none]) (st' := []) bf267_1212 bf267_1214 rfl rfl).trans ?_
  refine (bu (ls'' := [some (.ref l0), some (.ref l1), some (.ref l2), some (.ref l3), some (.int l4), none, none, none]) (st' := [.ref l2]) bf267_1214 bf267_1215 rfl rfl).trans ?_
  refine (bu (ls'' := [some (.ref l0), some (.ref l1), some (.ref l2), some (.ref l3), some (.int l4), none, none, none]) (st' := [.ref l0, .ref l2]) bf267_1215 bf267_1216 rfl rfl).trans ?_
  refine (bu (ls'' := [some (.ref l0), some (.ref l1), some (.ref l2), some (.ref l3), some (.int l4), none, none, none]) (st' := [.int l4, .ref l0, .ref l2]) bf267_1216 bf267_1218 rfl rfl).trans ?_
  refine (bu (ls'' := [some (.ref l0), some (.ref l1), some (.ref l2), some (.ref l3), some (.int l4), none, none, none]) (st' := [.int (nI 1), .int l4, .ref l0, .ref l2]) bf267_1218 bf267_1219 rfl rfl).trans ?_
  refine (bu (ls'' := [some (.ref l0), some (.ref l1), some (.ref l2), some (.ref l3), some (.int l4), none, none, none]) (st' := [.int (l4 + (nI 1)), .ref l0, .ref l2]) bf267_1219 bf267_1220 rfl rfl).trans ?_
  exact bh bf267_1220 bf267_1221 rfl (fun _ _ => am_ge_rf w) rfl
theorem bk267_1242 {w : am_Wd} {l0 : Nat} {l1 : Nat} {l2 : Nat} {l3 : Nat} {l4 : Int32} {s0 : Int32} {s1 : Int32} {s2 : Nat} : am_run 267 1242 [some (.ref l0), some (.ref l1), some (.ref l2), some (.ref l3), some (.int l4), none, none, none] [.int s0, .int s1, .ref s2] w = (am_x 235 [.ref s2, .int s1, .int s0, .ref l3] w).bind fun r => bct r fun v w' => am_run 267 1246 [some (.ref l0), some (.ref l1), some (.ref l2), some (.ref l3), some (.int l4), none, none, none] (v.toList ++ []) w' := by
  refine (bu (ls'' := [some (.ref l0), some (.ref l1), some (.ref l2), some (.ref l3), some (.int l4), none, none, none]) (st' := [.ref l3, .int s0, .int s1, .ref s2]) bf267_1242 bf267_1243 rfl rfl).trans ?_
  exact bkS bf267_1243 bf267_1246 rfl (by decide +kernel) (Nat.le_of_ble_eq_true rfl) rfl (bhd rfl)
theorem bk267_1280 {w : am_Wd} {l0 : Nat} {l1 : Nat} {l2 : Nat} {l3 : Nat} {l4 : Int32} {s0 : Int32} : am_run 267 1280 [some (.ref l0), some (.ref l1), some (.ref l2), some (.ref l3), some (.int l4), none, none, none] [.int s0] w = (am_ri 0 w l0 (l4 + (nI 1))).bind fun v => am_run 267 1289 [some (.ref l0), some (.ref l1), some (.ref l2), some (.ref l3), some (.int l4), none, none, none] (.int v :: [.ref l2]) w := by
  refine (bu (ls'' := [some (.ref l0), some (.ref l1), some (.ref l2), some (.ref l3), some (.int l4), none, none, none]) (st' := []) bf267_1280 bf267_1282 rfl rfl).trans ?_
  refine (bu (ls'' := [some (.ref l0), some (.ref l1), some (.ref l2), some (.ref l3), some (.int l4), none, none, none]) (st' := [.ref l2]) bf267_1282 bf267_1283 rfl rfl).trans ?_
  refine (bu (ls'' := [some (.ref l0), some (.ref l1), some (.ref l2), some (.ref l3), some (.int l4), none, none, none]) (st' := [.ref l0, .ref l2]) bf267_1283 bf267_1284 rfl rfl).trans ?_
  refine (bu (ls'' := [some (.ref l0), some (.ref l1), some (.ref l2), some (.ref l3), some (.int l4), none, none, none]) (st' := [.int l4, .ref l0, .ref l2]) bf267_1284 bf267_1286 rfl rfl).trans ?_
  refine (bu (ls'' := [some (.ref l0), some (.ref l1), some (.ref l2), some (.ref l3), some (.int l4), none, none, none]) (st' := [.int (nI 1), .int l4, .ref l0, .ref l2]) bf267_1286 bf267_1287 rfl rfl).trans ?_
  refine (bu (ls'' := [some (.ref l0), some (.ref l1), some (.ref l2), some (.ref l3), some (.int l4), none, none, none]) (st' := [.int (l4 + (nI 1)), .ref l0, .ref l2]) bf267_1287 bf267_1288 rfl rfl).trans ?_
  exact bh bf267_1288 bf267_1289 rfl (fun _ _ => am_ge_rf w) rfl
theorem bk267_1310 {w : am_Wd} {l0 : Nat} {l1 : Nat} {l2 : Nat} {l3 : Nat} {l4 : Int32} {s0 : Int32} {s1 : Int32} {s2 : Nat} : am_run 267 1310 [some (.ref l0), some (.ref l1), some (.ref l2), some (.ref l3), some (.int l4), none, none, none] [.int s0, .int s1, .ref s2] w = (am_x 220 [.ref s2, .int s1, .int s0, .ref l3] w).bind fun r => bct r fun v w' => am_run 267 1314 [some (.ref l0), some (.ref l1), some (.ref l2), some (.ref l3), some (.int l4), none, none, none] (v.toList ++ []) w' := by
  refine (bu (ls'' := [some (.ref l0), some (.ref l1), some (.ref l2), some (.ref l3), some (.int l4), none, none, none]) (st' := [.ref l3, .int s0, .int s1, .ref s2]) bf267_1310 bf267_1311 rfl rfl).trans ?_
  exact bkS bf267_1311 bf267_1314 rfl (by decide +kernel) (Nat.le_of_ble_eq_true rfl) rfl (bhd rfl)
theorem bk267_1350 {w : am_Wd} {l0 : Nat} {l1 : Nat} {l2 : Nat} {l3 : Nat} {l4 : Int32} {s0 : Int32} {s1 : Int32} {s2 : Nat} : am_run 267 1350 [some (.ref l0), some (.ref l1), some (.ref l2), some (.ref l3), some (.int l4), none, none, none] [.int s0, .int s1, .ref s2] w = (am_x 237 [.ref s2, .int s1, .int s0, .ref l3] w).bind fun r => bct r fun v w' => am_run 267 1354 [some (.ref l0), some (.ref l1), some (.ref l2), some (.ref l3), some (.int l4), none, none, none] (v.toList ++ []) w' := by
  refine (bu (ls'' := [some (.ref l0), some (.ref l1), some (.ref l2), some (.ref l3), some (.int l4), none, none, none]) (st' := [.ref l3, .int s0, .int s1, .ref s2]) bf267_1350 bf267_1351 rfl rfl).trans ?_
  exact bkS bf267_1351 bf267_1354 rfl (by decide +kernel) (Nat.le_of_ble_eq_true rfl) rfl (bhd rfl)
theorem bk267_1415 {w : am_Wd} {l0 : Nat} {l1 : Nat} {l2 : Nat} {l3 : Nat} {l4 : Int32} {s0 : Int32} : am_run 267 1415 [some (.ref l0), some (.ref l1), some (.ref l2), some (.ref l3), some (.int l4), none, none, none] [.int s0] w = am_run 267 1432 [some (.ref l0), some (.ref l1), some (.ref l2), some (.ref l3), some (.int l4), none, none, none] [] w := by
  refine (bu (ls'' := [some (.ref l0), some (.ref l1), some (.ref l2), some (.ref l3), some (.int l4), none, none, none]) (st' := []) bf267_1415 bf267_1416 rfl rfl).trans ?_
  refine (bu (ls'' := [some (.ref l0), some (.ref l1), some (.ref l2), some (.ref l3), some (.int l4), none, none, none]) (st' := []) bf267_1416 bf267_1432 rfl rfl).trans ?_
  rfl
theorem bk267_1428 {w : am_Wd} {l0 : Nat} {l1 : Nat} {l2 : Nat} {l3 : Nat} {l4 : Int32} {s0 : Int64} : am_run 267 1428 [some (.ref l0), some (.ref l1), some (.ref l2), some (.ref l3), some (.int l4), none, none, none] [.long s0] w = am_run 267 1432 [some (.ref l0), some (.ref l1), some (.ref l2), some (.ref l3), some (.int l4), none, none, none] [] w := by
  refine (bu (ls'' := [some (.ref l0), some (.ref l1), some (.ref l2), some (.ref l3), some (.int l4), none, none, none]) (st' := []) bf267_1428 bf267_1429 rfl rfl).trans ?_
  refine (bu (ls'' := [some (.ref l0), some (.ref l1), some (.ref l2), some (.ref l3), some (.int l4), none, none, none]) (st' := []) bf267_1429 bf267_1432 rfl rfl).trans ?_
  rfl
theorem bk267_191 {w : am_Wd} {l0 : Nat} {l1 : Nat} {l2 : Nat} {l3 : Nat} {l4 : Int32} {s0 : Int32} {s1 : Int32} {s2 : Int32} {s3 : Nat} : am_run 267 191 [some (.ref l0), some (.ref l1), some (.ref l2), some (.ref l3), some (.int l4), none, none, none] [.int s0, .int s1, .int s2, .ref s3] w = (am_ri 0 w l0 (l4 + (nI 4))).bind fun v => am_run 267 197 [some (.ref l0), some (.ref l1), some (.ref l2), some (.ref l3), some (.int l4), none, none, none] (.int v :: [.int s0, .int s1, .int s2, .ref s3]) w := by
  refine (bu (ls'' := [some (.ref l0), some (.ref l1), some (.ref l2), some (.ref l3), some (.int l4), none, none, none]) (st' := [.ref l0, .int s0, .int s1, .int s2, .ref s3]) bf267_191 bf267_192 rfl rfl).trans ?_
  refine (bu (ls'' := [some (.ref l0), some (.ref l1), some (.ref l2), some (.ref l3), some (.int l4), none, none, none]) (st' := [.int l4, .ref l0, .int s0, .int s1, .int s2, .ref s3]) bf267_192 bf267_194 rfl rfl).trans ?_
  refine (bu (ls'' := [some (.ref l0), some (.ref l1), some (.ref l2), some (.ref l3), some (.int l4), none, none, none]) (st' := [.int (nI 4), .int l4, .ref l0, .int s0, .int s1, .int s2, .ref s3]) bf267_194 bf267_195 rfl rfl).trans ?_
  refine (bu (ls'' := [some (.ref l0), some (.ref l1), some (.ref l2), some (.ref l3), some (.int l4), none, none, none]) (st' := [.int (l4 + (nI 4)), .ref l0, .int s0, .int s1, .int s2, .ref s3]) bf267_195 bf267_196 rfl rfl).trans ?_
  exact bh bf267_196 bf267_197 rfl (fun _ _ => am_ge_rf w) rfl
theorem bk267_256 {w : am_Wd} {l0 : Nat} {l1 : Nat} {l2 : Nat} {l3 : Nat} {l4 : Int32} {s0 : Int32} {s1 : Nat} : am_run 267 256 [some (.ref l0), some (.ref l1), some (.ref l2), some (.ref l3), some (.int l4), none, none, none] [.int s0, .ref s1] w = (am_kf w s1 11).bind fun _ => (am_x 206 [.ref s1, .int s0] w).bind fun r => bct r fun v w' => am_run 267 259 [some (.ref l0), some (.ref l1), some (.ref l2), some (.ref l3), some (.int l4), none, none, none] (v.toList ++ []) w' := by
  exact bkV bf267_256 bf267_259 rfl (by decide +kernel) (Nat.le_of_ble_eq_true rfl) rfl (bhd rfl)
theorem bk267_284 {w : am_Wd} {l0 : Nat} {l1 : Nat} {l2 : Nat} {l3 : Nat} {l4 : Int32} {s0 : Int32} {s1 : Nat} : am_run 267 284 [some (.ref l0), some (.ref l1), some (.ref l2), some (.ref l3), some (.int l4), none, none, none] [.int s0, .ref s1] w = am_run 267 285 [some (.ref l0), some (.ref l1), some (.ref l2), some (.ref l3), some (.int l4), none, none, none] [.int (nI 0), .int s0, .ref s1] w := by
  refine (bu (ls'' := [some (.ref l0), some (.ref l1), some (.ref l2), some (.ref l3), some (.int l4), none, none, none]) (st' := [.int (nI 0), .int s0, .ref s1]) bf267_284 bf267_285 rfl rfl).trans ?_
  rfl
theorem bk267_280 {w : am_Wd} {l0 : Nat} {l1 : Nat} {l2 : Nat} {l3 : Nat} {l4 : Int32} {s0 : Int32} {s1 : Nat} : am_run 267 280 [some (.ref l0), some (.ref l1), some (.ref l2), some (.ref l3), some (.int l4), none, none, none] [.int s0, .ref s1] w = am_run 267 285 [some (.ref l0), some (.ref l1), some (.ref l2), some (.ref l3), some (.int l4), none, none, none] [.int (nI 1), .int s0, .ref s1] w := by
  refine (bu (ls'' := [some (.ref l0), some (.ref l1), some (.ref l2), some (.ref l3), some (.int l4), none, none, none]) (st' := [.int (nI 1), .int s0, .ref s1]) bf267_280 bf267_281 rfl rfl).trans ?_
  refine (bu (ls'' := [some (.ref l0), some (.ref l1), some (.ref l2), some (.ref l3), some (.int l4), none, none, none]) (st' := [.int (nI 1), .int s0, .ref s1]) bf267_281 bf267_285 rfl rfl).trans ?_
  rfl
theorem bk267_367 {w : am_Wd} {l0 : Nat} {l1 : Nat} {l2 : Nat} {l3 : Nat} {l4 : Int32} {s0 : Int32} {s1 : Int32} {s2 : Int32} {s3 : Nat} : am_run 267 367 [some (.ref l0), some (.ref l1), some (.ref l2), some (.ref l3), some (.int l4), none, none, none] [.int s0, .int s1, .int s2, .ref s3] w = (am_ri 0 w l0 (l4 + (nI 4))).bind fun v => am_run 267 373 [some (.ref l0), some (.ref l1), some (.ref l2), some (.ref l3), some (.int l4), none, none, none] (.int v :: [.int s0, .int s1, .int s2, .ref s3]) w := by
  refine (bu (ls'' := [some (.ref l0), some (.ref l1), some (.ref l2), some (.ref l3), some (.int l4), none, none, none]) (st' := [.ref l0, .int s0, .int s1, .int s2, .ref s3]) bf267_367 bf267_368 rfl rfl).trans ?_
  refine (bu (ls'' := [some (.ref l0), some (.ref l1), some (.ref l2), some (.ref l3), some (.int l4), none, none, none]) (st' := [.int l4, .ref l0, .int s0, .int s1, .int s2, .ref s3]) bf267_368 bf267_370 rfl rfl).trans ?_
  refine (bu (ls'' := [some (.ref l0), some (.ref l1), some (.ref l2), some (.ref l3), some (.int l4), none, none, none]) (st' := [.int (nI 4), .int l4, .ref l0, .int s0, .int s1, .int s2, .ref s3]) bf267_370 bf267_371 rfl rfl).trans ?_
  refine (bu (ls'' := [some (.ref l0), some (.ref l1), some (.ref l2), some (.ref l3), some (.int l4), none, none, none]) (st' := [.int (l4 + (nI 4)), .ref l0, .int s0, .int s1, .int s2, .ref s3]) bf267_371 bf267_372 rfl rfl).trans ?_
  exact bh bf267_372 bf267_373 rfl (fun _ _ => am_ge_rf w) rfl
theorem bk267_448 {w : am_Wd} {l0 : Nat} {l1 : Nat} {l2 : Nat} {l3 : Nat} {l4 : Int32} {s0 : Int32} {s1 : Nat} : am_run 267 448 [some (.ref l0), some (.ref l1), some (.ref l2), some (.ref l3), some (.int l4), none, none, none] [.int s0, .ref s1] w = am_run 267 449 [some (.ref l0), some (.ref l1), some (.ref l2), some (.ref l3), some (.int l4), none, none, none] [.int (nI 0), .int s0, .ref s1] w := by
  refine (bu (ls'' := [some (.ref l0), some (.ref l1), some (.ref l2), some (.ref l3), some (.int l4), none, none, none]) (st' := [.int (nI 0), .int s0, .ref s1]) bf267_448 bf267_449 rfl rfl).trans ?_
  rfl
theorem bk267_444 {w : am_Wd} {l0 : Nat} {l1 : Nat} {l2 : Nat} {l3 : Nat} {l4 : Int32} {s0 : Int32} {s1 : Nat} : am_run 267 444 [some (.ref l0), some (.ref l1), some (.ref l2), some (.ref l3), some (.int l4), none, none, none] [.int s0, .ref s1] w = am_run 267 449 [some (.ref l0), some (.ref l1), some (.ref l2), some (.ref l3), some (.int l4), none, none, none] [.int (nI 1), .int s0, .ref s1] w := by
  refine (bu (ls'' := [some (.ref l0), some (.ref l1), some (.ref l2), some (.ref l3), some (.int l4), none, none, none]) (st' := [.int (nI 1), .int s0, .ref s1]) bf267_444 bf267_445 rfl rfl).trans ?_
  refine (bu (ls'' := [some (.ref l0), some (.ref l1), some (.ref l2), some (.ref l3), some (.int l4), none, none, none]) (st' := [.int (nI 1), .int s0, .ref s1]) bf267_445 bf267_449 rfl rfl).trans ?_
  rfl
theorem bk267_504 {w : am_Wd} {l0 : Nat} {l1 : Nat} {l2 : Nat} {l3 : Nat} {l4 : Int32} {s0 : Int32} {s1 : Nat} : am_run 267 504 [some (.ref l0), some (.ref l1), some (.ref l2), some (.ref l3), some (.int l4), none, none, none] [.int s0, .ref s1] w = am_run 267 505 [some (.ref l0), some (.ref l1), some (.ref l2), some (.ref l3), some (.int l4), none, none, none] [.int (nI 0), .int s0, .ref s1] w := by
  refine (bu (ls'' := [some (.ref l0), some (.ref l1), some (.ref l2), some (.ref l3), some (.int l4), none, none, none]) (st' := [.int (nI 0), .int s0, .ref s1]) bf267_504 bf267_505 rfl rfl).trans ?_
  rfl
theorem bk267_500 {w : am_Wd} {l0 : Nat} {l1 : Nat} {l2 : Nat} {l3 : Nat} {l4 : Int32} {s0 : Int32} {s1 : Nat} : am_run 267 500 [some (.ref l0), some (.ref l1), some (.ref l2), some (.ref l3), some (.int l4), none, none, none] [.int s0, .ref s1] w = am_run 267 505 [some (.ref l0), some (.ref l1), some (.ref l2), some (.ref l3), some (.int l4), none, none, none] [.int (nI 1), .int s0, .ref s1] w := by
  refine (bu (ls'' := [some (.ref l0), some (.ref l1), some (.ref l2), some (.ref l3), some (.int l4), none, none, none]) (st' := [.int (nI 1), .int s0, .ref s1]) bf267_500 bf267_501 rfl rfl).trans ?_
  refine (bu (ls'' := [some (.ref l0), some (.ref l1), some (.ref l2), some (.ref l3), some (.int l4), none, none, none]) (st' := [.int (nI 1), .int s0, .ref s1]) bf267_501 bf267_505 rfl rfl).trans ?_
  rfl
theorem bk267_588 {w : am_Wd} {l0 : Nat} {l1 : Nat} {l2 : Nat} {l3 : Nat} {l4 : Int32} {s0 : Int32} {s1 : Nat} : am_run 267 588 [some (.ref l0), some (.ref l1), some (.ref l2), some (.ref l3), some (.int l4), none, none, none] [.int s0, .ref s1] w = am_run 267 589 [some (.ref l0), some (.ref l1), some (.ref l2), some (.ref l3), some (.int l4), none, none, none] [.int (nI 0), .int s0, .ref s1] w := by
  refine (bu (ls'' := [some (.ref l0), some (.ref l1), some (.ref l2), some (.ref l3), some (.int l4), none, none, none]) (st' := [.int (nI 0), .int s0, .ref s1]) bf267_588 bf267_589 rfl rfl).trans ?_
  rfl
theorem bk267_584 {w : am_Wd} {l0 : Nat} {l1 : Nat} {l2 : Nat} {l3 : Nat} {l4 : Int32} {s0 : Int32} {s1 : Nat} : am_run 267 584 [some (.ref l0), some (.ref l1), some (.ref l2), some (.ref l3), some (.int l4), none, none, none] [.int s0, .ref s1] w = am_run 267 589 [some (.ref l0), some (.ref l1), some (.ref l2), some (.ref l3), some (.int l4), none, none, none] [.int (nI 1), .int s0, .ref s1] w := by
  refine (bu (ls'' := [some (.ref l0), some (.ref l1), some (.ref l2), some (.ref l3), some (.int l4), none, none, none]) (st' := [.int (nI 1), .int s0, .ref s1]) bf267_584 bf267_585 rfl rfl).trans ?_
  refine (bu (ls'' := [some (.ref l0), some (.ref l1), some (.ref l2), some (.ref l3), some (.int l4), none, none, none]) (st' := [.int (nI 1), .int s0, .ref s1]) bf267_585 bf267_589 rfl rfl).trans ?_
  rfl
theorem bk267_644 {w : am_Wd} {l0 : Nat} {l1 : Nat} {l2 : Nat} {l3 : Nat} {l4 : Int32} {s0 : Int32} {s1 : Nat} : am_run 267 644 [some (.ref l0), some (.ref l1), some (.ref l2), some (.ref l3), some (.int l4), none, none, none] [.int s0, .ref s1] w = am_run 267 645 [some (.ref l0), some (.ref l1), some (.ref l2), some (.ref l3), some (.int l4), none, none, none] [.int (nI 0), .int s0, .ref s1] w := by
  refine (bu (ls'' := [some (.ref l0), some (.ref l1), some (.ref l2), some (.ref l3), some (.int l4), none, none, none]) (st' := [.int (nI 0), .int s0, .ref s1]) bf267_644 bf267_645 rfl rfl).trans ?_
  rfl
theorem bk267_640 {w : am_Wd} {l0 : Nat} {l1 : Nat} {l2 : Nat} {l3 : Nat} {l4 : Int32} {s0 : Int32} {s1 : Nat} : am_run 267 640 [some (.ref l0), some (.ref l1), some (.ref l2), some (.ref l3), some (.int l4), none, none, none] [.int s0, .ref s1] w = am_run 267 645 [some (.ref l0), some (.ref l1), some (.ref l2), some (.ref l3), some (.int l4), none, none, none] [.int (nI 1), .int s0, .ref s1] w := by
  refine (bu (ls'' := [some (.ref l0), some (.ref l1), some (.ref l2), some (.ref l3), some (.int l4), none, none, none]) (st' := [.int (nI 1), .int s0, .ref s1]) bf267_640 bf267_641 rfl rfl).trans ?_
  refine (bu (ls'' := [some (.ref l0), some (.ref l1), some (.ref l2), some (.ref l3), some (.int l4), none, none, none]) (st' := [.int (nI 1), .int s0, .ref s1]) bf267_641 bf267_645 rfl rfl).trans ?_
  rfl
theorem bk267_697 {w : am_Wd} {l0 : Nat} {l1 : Nat} {l2 : Nat} {l3 : Nat} {l4 : Int32} {s0 : Int32} : am_run 267 697 [some (.ref l0), some (.ref l1), some (.ref l2), some (.ref l3), some (.int l4), none, none, none] [.int s0] w = (am_ri 0 w l0 (l4 + (nI 1))).bind fun v => am_run 267 706 [some (.ref l0), some (.ref l1), some (.ref l2), some (.ref l3), some (.int l4), none, none, none] (.int v :: [.ref l2]) w := by
  refine (bu (ls'' := [some (.ref l0), some (.ref l1), some (.ref l2), some (.ref l3), some (.int l4), none, none, none]) (st' := []) bf267_697 bf267_699 rfl rfl).trans ?_
  refine (bu (ls'' := [some (.ref l0), some (.ref l1), some (.ref l2), some (.ref l3), some (.int l4), none, none, none]) (st' := [.ref l2]) bf267_699 bf267_700 rfl rfl).trans ?_
  refine (bu (ls'' := [some (.ref l0), some (.ref l1), some (.ref l2), some (.ref l3), some (.int l4), none, none, none]) (st' := [.ref l0, .ref l2]) bf267_700 bf267_701 rfl rfl).trans ?_
  refine (bu (ls'' := [some (.ref l0), some (.ref l1), some (.ref l2), some (.ref l3), some (.int l4), none, none, none]) (st' := [.int l4, .ref l0, .ref l2]) bf267_701 bf267_703 rfl rfl).trans ?_
  refine (bu (ls'' := [some (.ref l0), some (.ref l1), some (.ref l2), some (.ref l3), some (.int l4), none, none, none]) (st' := [.int (nI 1), .int l4, .ref l0, .ref l2]) bf267_703 bf267_704 rfl rfl).trans ?_
  refine (bu (ls'' := [some (.ref l0), some (.ref l1), some (.ref l2), some (.ref l3), some (.int l4), none, none, none]) (st' := [.int (l4 + (nI 1)), .ref l0, .ref l2]) bf267_704 bf267_705 rfl rfl).trans ?_
  exact bh bf267_705 bf267_706 rfl (fun _ _ => am_ge_rf w) rfl
theorem bk267_740 {w : am_Wd} {l0 : Nat} {l1 : Nat} {l2 : Nat} {l3 : Nat} {l4 : Int32} {s0 : Int32} {s1 : Nat} : am_run 267 740 [some (.ref l0), some (.ref l1), some (.ref l2), some (.ref l3), some (.int l4), none, none, none] [.int s0, .ref s1] w = (am_kf w s1 11).bind fun _ => (am_x 179 [.ref s1, .int s0] w).bind fun r => bct r fun v w' => am_run 267 743 [some (.ref l0), some (.ref l1), some (.ref l2), some (.ref l3), some (.int l4), none, none, none] (v.toList ++ []) w' := by
  exact bkV bf267_740 bf267_743 rfl (by decide +kernel) (Nat.le_of_ble_eq_true rfl) rfl (bhd rfl)
theorem bk267_765 {w : am_Wd} {l0 : Nat} {l1 : Nat} {l2 : Nat} {l3 : Nat} {l4 : Int32} {s0 : Int32} : am_run 267 765 [some (.ref l0), some (.ref l1), some (.ref l2), some (.ref l3), some (.int l4), none, none, none] [.int s0] w = (am_ri 0 w l0 (l4 + (nI 1))).bind fun v => am_run 267 774 [some (.ref l0), some (.ref l1), some (.ref l2), some (.ref l3), some (.int l4), none, none, none] (.int v :: [.ref l2]) w := by
  refine (bu (ls'' := [some (.ref l0), some (.ref l1), some (.ref l2), some (.ref l3), some (.int l4), none, none, none]) (st' := []) bf267_765 bf267_767 rfl rfl).trans ?_
  refine (bu (ls'' := [some (.ref l0), some (.ref l1), some (.ref l2), some (.ref l3), some (.int l4), none, none, none]) (st' := [.ref l2]) bf267_767 bf267_768 rfl rfl).trans ?_
  refine (bu (ls'' := [some (.ref l0), some (.ref l1), some (.ref l2), some (.ref l3), some (.int l4), none, none, none]) (st' := [.ref l0, .ref l2]) bf267_768 bf267_769 rfl rfl).trans ?_
  refine (bu (ls'' := [some (.ref l0), some (.ref l1), some (.ref l2), some (.ref l3), some (.int l4), none, none, none]) (st' := [.int l4, .ref l0, .ref l2]) bf267_769 bf267_771 rfl rfl).trans ?_
  refine (bu (ls'' := [some (.ref l0), some (.ref l1), some (.ref l2), some (.ref l3), some (.int l4), none, none, none]) (st' := [.int (nI 1), .int l4, .ref l0, .ref l2]) bf267_771 bf267_772 rfl rfl).trans ?_
  refine (bu (ls'' := [some (.ref l0), some (.ref l1), some (.ref l2), some (.ref l3), some (.int l4), none, none, none]) (st' := [.int (l4 + (nI 1)), .ref l0, .ref l2]) bf267_772 bf267_773 rfl rfl).trans ?_
  exact bh bf267_773 bf267_774 rfl (fun _ _ => am_ge_rf w) rfl
theorem bk267_808 {w : am_Wd} {l0 : Nat} {l1 : Nat} {l2 : Nat} {l3 : Nat} {l4 : Int32} {s0 : Int32} {s1 : Nat} : am_run 267 808 [some (.ref l0), some (.ref l1), some (.ref l2), some (.ref l3), some (.int l4), none, none, none] [.int s0, .ref s1] w = (am_kf w s1 11).bind fun _ => (am_x 145 [.ref s1, .int s0] w).bind fun r => bct r fun v w' => am_run 267 811 [some (.ref l0), some (.ref l1), some (.ref l2), some (.ref l3), some (.int l4), none, none, none] (v.toList ++ []) w' := by
  exact bkV bf267_808 bf267_811 rfl (by decide +kernel) (Nat.le_of_ble_eq_true rfl) rfl (bhd rfl)
theorem bk267_848 {w : am_Wd} {l0 : Nat} {l1 : Nat} {l2 : Nat} {l3 : Nat} {l4 : Int32} {s0 : Int32} {s1 : Int32} {s2 : Int32} {s3 : Nat} : am_run 267 848 [some (.ref l0), some (.ref l1), some (.ref l2), some (.ref l3), some (.int l4), none, none, none] [.int s0, .int s1, .int s2, .ref s3] w = (am_x 219 [.ref s3, .int s2, .int s1, .int s0, .ref l3] w).bind fun r => bct r fun v w' => am_run 267 852 [some (.ref l0), some (.ref l1), some (.ref l2), some (.ref l3), some (.int l4), none, none, none] (v.toList ++ []) w' := by
  refine (bu (ls'' := [some (.ref l0), some (.ref l1), some (.ref l2), some (.ref l3), some (.int l4), none, none, none]) (st' := [.ref l3, .int s0, .int s1, .int s2, .ref s3]) bf267_848 bf267_849 rfl rfl).trans ?_
  exact bkS bf267_849 bf267_852 rfl (by decide +kernel) (Nat.le_of_ble_eq_true rfl) rfl (bhd rfl)
theorem bk267_898 {w : am_Wd} {l0 : Nat} {l1 : Nat} {l2 : Nat} {l3 : Nat} {l4 : Int32} {s0 : Int32} : am_run 267 898 [some (.ref l0), some (.ref l1), some (.ref l2), some (.ref l3), some (.int l4), none, none, none] [.int s0] w = (am_ri 0 w l0 (l4 + (nI 1))).bind fun v => am_run 267 907 [some (.ref l0), some (.ref l1), some (.ref l2), some (.ref l3), some (.int l4), none, none, none] (.int v :: [.ref l2]) w := by
  refine (bu (ls'' := [some (.ref l0), some (.ref l1), some (.ref l2), some (.ref l3), some (.int l4), none, none, none]) (st' := []) bf267_898 bf267_900 rfl rfl).trans ?_
  refine (bu (ls'' := [some (.ref l0), some (.ref l1), some (.ref l2), some (.ref l3), some (.int l4), none, none, none]) (st' := [.ref l2]) bf267_900 bf267_901 rfl rfl).trans ?_
  refine (bu (ls'' := [some (.ref l0), some (.ref l1), some (.ref l2), some (.ref l3), some (.int l4), none, none, none]) (st' := [.ref l0, .ref l2]) bf267_901 bf267_902 rfl rfl).trans ?_
  refine (bu (ls'' := [some (.ref l0), some (.ref l1), some (.ref l2), some (.ref l3), some (.int l4), none, none, none]) (st' := [.int l4, .ref l0, .ref l2]) bf267_902 bf267_904 rfl rfl).trans ?_
  refine (bu (ls'' := [some (.ref l0), some (.ref l1), some (.ref l2), some (.ref l3), some (.int l4), none, none, none]) (st' := [.int (nI 1), .int l4, .ref l0, .ref l2]) bf267_904 bf267_905 rfl rfl).trans ?_
  refine (bu (ls'' := [some (.ref l0), some (.ref l1), some (.ref l2), some (.ref l3), some (.int l4), none, none, none]) (st' := [.int (l4 + (nI 1)), .ref l0, .ref l2]) bf267_905 bf267_906 rfl rfl).trans ?_
  exact bh bf267_906 bf267_907 rfl (fun _ _ => am_ge_rf w) rfl
theorem bk267_941 {w : am_Wd} {l0 : Nat} {l1 : Nat} {l2 : Nat} {l3 : Nat} {l4 : Int32} {s0 : Int32} {s1 : Nat} : am_run 267 941 [some (.ref l0), some (.ref l1), some (.ref l2), some (.ref l3), some (.int l4), none, none, none] [.int s0, .ref s1] w = (am_kf w s1 11).bind fun _ => (am_x 227 [.ref s1, .int s0] w).bind fun r => bct r fun v w' => am_run 267 944 [some (.ref l0), some (.ref l1), some (.ref l2), some (.ref l3), some (.int l4), none, none, none] (v.toList ++ []) w' := by
  exact bkV bf267_941 bf267_944 rfl (by decide +kernel) (Nat.le_of_ble_eq_true rfl) rfl (bhd rfl)
theorem bk267_969 {w : am_Wd} {l0 : Nat} {l1 : Nat} {l2 : Nat} {l3 : Nat} {l4 : Int32} {s0 : Int32} {s1 : Nat} : am_run 267 969 [some (.ref l0), some (.ref l1), some (.ref l2), some (.ref l3), some (.int l4), none, none, none] [.int s0, .ref s1] w = (am_kf w s1 11).bind fun _ => (am_x 246 [.ref s1, .int s0] w).bind fun r => bct r fun v w' => am_run 267 972 [some (.ref l0), some (.ref l1), some (.ref l2), some (.ref l3), some (.int l4), none, none, none] (v.toList ++ []) w' := by
  exact bkV bf267_969 bf267_972 rfl (by decide +kernel) (Nat.le_of_ble_eq_true rfl) rfl (bhd rfl)
theorem bk267_996 {w : am_Wd} {l0 : Nat} {l1 : Nat} {l2 : Nat} {l3 : Nat} {l4 : Int32} {s0 : Int32} {s1 : Int32} {s2 : Int32} {s3 : Nat} : am_run 267 996 [some (.ref l0), some (.ref l1), some (.ref l2), some (.ref l3), some (.int l4), none, none, none] [.int s0, .int s1, .int s2, .ref s3] w = (am_x 191 [.ref s3, .int s2, .int s1, .int s0, .ref l3] w).bind fun r => bct r fun v w' => am_run 267 1000 [some (.ref l0), some (.ref l1), some (.ref l2), some (.ref l3), some (.int l4), none, none, none] (v.toList ++ []) w' := by
  refine (bu (ls'' := [some (.ref l0), some (.ref l1), some (.ref l2), some (.ref l3), some (.int l4), none, none, none]) (st' := [.ref l3, .int s0, .int s1, .int s2, .ref s3]) bf267_996 bf267_997 rfl rfl).trans ?_
  exact bkS bf267_997 bf267_1000 rfl (by decide +kernel) (Nat.le_of_ble_eq_true rfl) rfl (bhd rfl)
theorem bk267_1046 {w : am_Wd} {l0 : Nat} {l1 : Nat} {l2 : Nat} {l3 : Nat} {l4 : Int32} {s0 : Int32} : am_run 267 1046 [some (.ref l0), some (.ref l1), some (.ref l2), some (.ref l3), some (.int l4), none, none, none] [.int s0] w = (am_ri 0 w l0 (l4 + (nI 1))).bind fun v => am_run 267 1055 [some (.ref l0), some (.ref l1), some (.ref l2), some (.ref l3), some (.int l4), none, none, none] (.int v :: [.ref l2]) w := by
  refine (bu (ls'' := [some (.ref l0), some (.ref l1), some (.ref l2), some (.ref l3), some (.int l4), none, none, none]) (st' := []) bf267_1046 bf267_1048 rfl rfl).trans ?_
  refine (bu (ls'' := [some (.ref l0), some (.ref l1), some (.ref l2), some (.ref l3), some (.int l4), none, none, none]) (st' := [.ref l2]) bf267_1048 bf267_1049 rfl rfl).trans ?_
  refine (bu (ls'' := [some (.ref l0), some (.ref l1), some (.ref l2), some (.ref l3), some (.int l4), none, none, none]) (st' := [.ref l0, .ref l2]) bf267_1049 bf267_1050 rfl rfl).trans ?_
  refine (bu (ls'' := [some (.ref l0), some (.ref l1), some (.ref l2), some (.ref l3), some (.int l4), none, none, none]) (st' := [.int l4, .ref l0, .ref l2]) bf267_1050 bf267_1052 rfl rfl).trans ?_
  refine (bu (ls'' := [some (.ref l0), some (.ref l1), some (.ref l2), some (.ref l3), some (.int l4), none, none, none]) (st' := [.int (nI 1), .int l4, .ref l0, .ref l2]) bf267_1052 bf267_1053 rfl rfl).trans ?_
  refine (bu (ls'' := [some (.ref l0), some (.ref l1), some (.ref l2), some (.ref l3), some (.int l4), none, none, none]) (st' := [.int (l4 + (nI 1)), .ref l0, .ref l2]) bf267_1053 bf267_1054 rfl rfl).trans ?_
  exact bh bf267_1054 bf267_1055 rfl (fun _ _ => am_ge_rf w) rfl
theorem bk267_1086 {w : am_Wd} {l0 : Nat} {l1 : Nat} {l2 : Nat} {l3 : Nat} {l4 : Int32} {s0 : Int32} : am_run 267 1086 [some (.ref l0), some (.ref l1), some (.ref l2), some (.ref l3), some (.int l4), none, none, none] [.int s0] w = (am_ri 0 w l0 (l4 + (nI 1))).bind fun v => am_run 267 1095 [some (.ref l0), some (.ref l1), some (.ref l2), some (.ref l3), some (.int l4), none, none, none] (.int v :: [.ref l2]) w := by
  refine (bu (ls'' := [some (.ref l0), some (.ref l1), some (.ref l2), some (.ref l3), some (.int l4), none, none, none]) (st' := []) bf267_1086 bf267_1088 rfl rfl).trans ?_
  refine (bu (ls'' := [some (.ref l0), some (.ref l1), some (.ref l2), some (.ref l3), some (.int l4), none, none, none]) (st' := [.ref l2]) bf267_1088 bf267_1089 rfl rfl).trans ?_
  refine (bu (ls'' := [some (.ref l0), some (.ref l1), some (.ref l2), some (.ref l3), some (.int l4), none, none, none]) (st' := [.ref l0, .ref l2]) bf267_1089 bf267_1090 rfl rfl).trans ?_
  refine (bu (ls'' := [some (.ref l0), some (.ref l1), some (.ref l2), some (.ref l3), some (.int l4), none, none, none]) (st' := [.int l4, .ref l0, .ref l2]) bf267_1090 bf267_1092 rfl rfl).trans ?_
  refine (bu (ls'' := [some (.ref l0), some (.ref l1), some (.ref l2), some (.ref l3), some (.int l4), none, none, none]) (st' := [.int (nI 1), .int l4, .ref l0, .ref l2]) bf267_1092 bf267_1093 rfl rfl).trans ?_
  refine (bu (ls'' := [some (.ref l0), some (.ref l1), some (.ref l2), some (.ref l3), some (.int l4), none, none, none]) (st' := [.int (l4 + (nI 1)), .ref l0, .ref l2]) bf267_1093 bf267_1094 rfl rfl).trans ?_
  exact bh bf267_1094 bf267_1095 rfl (fun _ _ => am_ge_rf w) rfl
theorem bk267_1128 {w : am_Wd} {l0 : Nat} {l1 : Nat} {l2 : Nat} {l3 : Nat} {l4 : Int32} {s0 : Int32} {s1 : Int32} {s2 : Int32} {s3 : Nat} : am_run 267 1128 [some (.ref l0), some (.ref l1), some (.ref l2), some (.ref l3), some (.int l4), none, none, none] [.int s0, .int s1, .int s2, .ref s3] w = (am_x 194 [.ref s3, .int s2, .int s1, .int s0, .ref l3] w).bind fun r => bct r fun v w' => am_run 267 1132 [some (.ref l0), some (.ref l1), some (.ref l2), some (.ref l3), some (.int l4), none, none, none] (v.toList ++ []) w' := by
  refine (bu (ls'' := [some (.ref l0), some (.ref l1), some (.ref l2), some (.ref l3), some (.int l4), none, none, none]) (st' := [.ref l3, .int s0, .int s1, .int s2, .ref s3]) bf267_1128 bf267_1129 rfl rfl).trans ?_
  exact bkS bf267_1129 bf267_1132 rfl (by decide +kernel) (Nat.le_of_ble_eq_true rfl) rfl (bhd rfl)
theorem bk267_1178 {w : am_Wd} {l0 : Nat} {l1 : Nat} {l2 : Nat} {l3 : Nat} {l4 : Int32} {s0 : Int32} : am_run 267 1178 [some (.ref l0), some (.ref l1), some (.ref l2), some (.ref l3), some (.int l4), none, none, none] [.int s0] w = (am_ri 0 w l0 (l4 + (nI 1))).bind fun v => am_run 267 1187 [some (.ref l0), some (.ref l1), some (.ref l2), some (.ref l3), some (.int l4), none, none, none] (.int v :: [.ref l2]) w := by
  refine (bu (ls'' := [some (.ref l0), some (.ref l1), some (.ref l2), some (.ref l3), some (.int l4), none, none, none]) (st' := []) bf267_1178 bf267_1180 rfl rfl).trans ?_
  refine (bu (ls'' := [some (.ref l0), some (.ref l1), some (.ref l2), some (.ref l3), some (.int l4), none, none, none]) (st' := [.ref l2]) bf267_1180 bf267_1181 rfl rfl).trans ?_
  refine (bu (ls'' := [some (.ref l0), some (.ref l1), some (.ref l2), some (.ref l3), some (.int l4), none, none, none]) (st' := [.ref l0, .ref l2]) bf267_1181 bf267_1182 rfl rfl).trans ?_
  refine (bu (ls'' := [some (.ref l0), some (.ref l1), some (.ref l2), some (.ref l3), some (.int l4), none, none, none]) (st' := [.int l4, .ref l0, .ref l2]) bf267_1182 bf267_1184 rfl rfl).trans ?_
  refine (bu (ls'' := [some (.ref l0), some (.ref l1), some (.ref l2), some (.ref l3), some (.int l4), none, none, none]) (st' := [.int (nI 1), .int l4, .ref l0, .ref l2]) bf267_1184 bf267_1185 rfl rfl).trans ?_
  refine (bu (ls'' := [some (.ref l0), some (.ref l1), some (.ref l2), some (.ref l3), some (.int l4), none, none, none]) (st' := [.int (l4 + (nI 1)), .ref l0, .ref l2]) bf267_1185 bf267_1186 rfl rfl).trans ?_
  exact bh bf267_1186 bf267_1187 rfl (fun _ _ => am_ge_rf w) rfl
theorem bk267_1221 {w : am_Wd} {l0 : Nat} {l1 : Nat} {l2 : Nat} {l3 : Nat} {l4 : Int32} {s0 : Int32} {s1 : Nat} : am_run 267 1221 [some (.ref l0), some (.ref l1), some (.ref l2), some (.ref l3), some (.int l4), none, none, none] [.int s0, .ref s1] w = (am_kf w s1 11).bind fun _ => (am_x 185 [.ref s1, .int s0] w).bind fun r => bct r fun v w' => am_run 267 1224 [some (.ref l0), some (.ref l1), some (.ref l2), some (.ref l3), some (.int l4), none, none, none] (v.toList ++ []) w' := by
  exact bkV bf267_1221 bf267_1224 rfl (by decide +kernel) (Nat.le_of_ble_eq_true rfl) rfl (bhd rfl)
theorem bk267_1246 {w : am_Wd} {l0 : Nat} {l1 : Nat} {l2 : Nat} {l3 : Nat} {l4 : Int32} {s0 : Int32} : am_run 267 1246 [some (.ref l0), some (.ref l1), some (.ref l2), some (.ref l3), some (.int l4), none, none, none] [.int s0] w = (am_ri 0 w l0 (l4 + (nI 1))).bind fun v => am_run 267 1255 [some (.ref l0), some (.ref l1), some (.ref l2), some (.ref l3), some (.int l4), none, none, none] (.int v :: [.ref l2]) w := by
  refine (bu (ls'' := [some (.ref l0), some (.ref l1), some (.ref l2), some (.ref l3), some (.int l4), none, none, none]) (st' := []) bf267_1246 bf267_1248 rfl rfl).trans ?_
  refine (bu (ls'' := [some (.ref l0), some (.ref l1), some (.ref l2), some (.ref l3), some (.int l4), none, none, none]) (st' := [.ref l2]) bf267_1248 bf267_1249 rfl rfl).trans ?_
  refine (bu (ls'' := [some (.ref l0), some (.ref l1), some (.ref l2), some (.ref l3), some (.int l4), none, none, none]) (st' := [.ref l0, .ref l2]) bf267_1249 bf267_1250 rfl rfl).trans ?_
  refine (bu (ls'' := [some (.ref l0), some (.ref l1), some (.ref l2), some (.ref l3), some (.int l4), none, none, none]) (st' := [.int l4, .ref l0, .ref l2]) bf267_1250 bf267_1252 rfl rfl).trans ?_
  refine (bu (ls'' := [some (.ref l0), some (.ref l1), some (.ref l2), some (.ref l3), some (.int l4), none, none, none]) (st' := [.int (nI 1), .int l4, .ref l0, .ref l2]) bf267_1252 bf267_1253 rfl rfl).trans ?_
  refine (bu (ls'' := [some (.ref l0), some (.ref l1), some (.ref l2), some (.ref l3), some (.int l4), none, none, none]) (st' := [.int (l4 + (nI 1)), .ref l0, .ref l2]) bf267_1253 bf267_1254 rfl rfl).trans ?_
  exact bh bf267_1254 bf267_1255 rfl (fun _ _ => am_ge_rf w) rfl
theorem bk267_1289 {w : am_Wd} {l0 : Nat} {l1 : Nat} {l2 : Nat} {l3 : Nat} {l4 : Int32} {s0 : Int32} {s1 : Nat} : am_run 267 1289 [some (.ref l0), some (.ref l1), some (.ref l2), some (.ref l3), some (.int l4), none, none, none] [.int s0, .ref s1] w = (am_kf w s1 11).bind fun _ => (am_x 252 [.ref s1, .int s0] w).bind fun r => bct r fun v w' => am_run 267 1292 [some (.ref l0), some (.ref l1), some (.ref l2), some (.ref l3), some (.int l4), none, none, none] (v.toList ++ []) w' := by
  exact bkV bf267_1289 bf267_1292 rfl (by decide +kernel) (Nat.le_of_ble_eq_true rfl) rfl (bhd rfl)
theorem bk267_1314 {w : am_Wd} {l0 : Nat} {l1 : Nat} {l2 : Nat} {l3 : Nat} {l4 : Int32} {s0 : Int32} : am_run 267 1314 [some (.ref l0), some (.ref l1), some (.ref l2), some (.ref l3), some (.int l4), none, none, none] [.int s0] w = (am_ri 0 w l0 (l4 + (nI 1))).bind fun v => am_run 267 1323 [some (.ref l0), some (.ref l1), some (.ref l2), some (.ref l3), some (.int l4), none, none, none] (.int v :: [.ref l2]) w := by
  refine (bu (ls'' := [some (.ref l0), some (.ref l1), some (.ref l2), some (.ref l3), some (.int l4), none, none, none]) (st' := []) bf267_1314 bf267_1316 rfl rfl).trans ?_
  refine (bu (ls'' := [some (.ref l0), some (.ref l1), some (.ref l2), some (.ref l3), some (.int l4), none, none, none]) (st' := [.ref l2]) bf267_1316 bf267_1317 rfl rfl).trans ?_
  refine (bu (ls'' := [some (.ref l0), some (.ref l1), some (.ref l2), some (.ref l3), some (.int l4), none, none, none]) (st' := [.ref l0, .ref l2]) bf267_1317 bf267_1318 rfl rfl).trans ?_
  refine (bu (ls'' := [some (.ref l0), some (.ref l1), some (.ref l2), some (.ref l3), some (.int l4), none, none, none]) (st' := [.int l4, .ref l0, .ref l2]) bf267_1318 bf267_1320 rfl rfl).trans ?_
  refine (bu (ls'' := [some (.ref l0), some (.ref l1), some (.ref l2), some (.ref l3), some (.int l4), none, none, none]) (st' := [.int (nI 1), .int l4, .ref l0, .ref l2]) bf267_1320 bf267_1321 rfl rfl).trans ?_
  refine (bu (ls'' := [some (.ref l0), some (.ref l1), some (.ref l2), some (.ref l3), some (.int l4), none, none, none]) (st' := [.int (l4 + (nI 1)), .ref l0, .ref l2]) bf267_1321 bf267_1322 rfl rfl).trans ?_
  exact bh bf267_1322 bf267_1323 rfl (fun _ _ => am_ge_rf w) rfl
theorem bk267_1354 {w : am_Wd} {l0 : Nat} {l1 : Nat} {l2 : Nat} {l3 : Nat} {l4 : Int32} {s0 : Int32} : am_run 267 1354 [some (.ref l0), some (.ref l1), some (.ref l2), some (.ref l3), some (.int l4), none, none, none] [.int s0] w = (am_ri 0 w l0 (l4 + (nI 1))).bind fun v => am_run 267 1363 [some (.ref l0), some (.ref l1), some (.ref l2), some (.ref l3), some (.int l4), some (.int s0), none, none] (.int v :: [.ref l2]) w := by
  refine (bu (ls'' := [some (.ref l0), some (.ref l1), some (.ref l2), some (.ref l3), some (.int l4), some (.int s0), none, none]) (st' := []) bf267_1354 bf267_1356 rfl rfl).trans ?_
  refine (bu (ls'' := [some (.ref l0), some (.ref l1), some (.ref l2), some (.ref l3), some (.int l4), some (.int s0), none, none]) (st' := [.ref l2]) bf267_1356 bf267_1357 rfl rfl).trans ?_
  refine (bu (ls'' := [some (.ref l0), some (.ref l1), some (.ref l2), some (.ref l3), some (.int l4), some (.int s0), none, none]) (st' := [.ref l0, .ref l2]) bf267_1357 bf267_1358 rfl rfl).trans ?_
  refine (bu (ls'' := [some (.ref l0), some (.ref l1), some (.ref l2), some (.ref l3), some (.int l4), some (.int s0), none, none]) (st' := [.int l4, .ref l0, .ref l2]) bf267_1358 bf267_1360 rfl rfl).trans ?_
  refine (bu (ls'' := [some (.ref l0), some (.ref l1), some (.ref l2), some (.ref l3), some (.int l4), some (.int s0), none, none]) (st' := [.int (nI 1), .int l4, .ref l0, .ref l2]) bf267_1360 bf267_1361 rfl rfl).trans ?_
  refine (bu (ls'' := [some (.ref l0), some (.ref l1), some (.ref l2), some (.ref l3), some (.int l4), some (.int s0), none, none]) (st' := [.int (l4 + (nI 1)), .ref l0, .ref l2]) bf267_1361 bf267_1362 rfl rfl).trans ?_
  exact bh bf267_1362 bf267_1363 rfl (fun _ _ => am_ge_rf w) rfl
theorem bk267_197 {w : am_Wd} {l0 : Nat} {l1 : Nat} {l2 : Nat} {l3 : Nat} {l4 : Int32} {s0 : Int32} {s1 : Int32} {s2 : Int32} {s3 : Int32} {s4 : Nat} : am_run 267 197 [some (.ref l0), some (.ref l1), some (.ref l2), some (.ref l3), some (.int l4), none, none, none] [.int s0, .int s1, .int s2, .int s3, .ref s4] w = (am_x 216 [.ref s4, .int s3, .int s2, .int s1, .int s0, .ref l3] w).bind fun r => bct r fun v w' => am_run 267 201 [some (.ref l0), some (.ref l1), some (.ref l2), some (.ref l3), some (.int l4), none, none, none] (v.toList ++ []) w' := by
  refine (bu (ls'' := [some (.ref l0), some (.ref l1), some (.ref l2), some (.ref l3), some (.int l4), none, none, none]) (st' := [.ref l3, .int s0, .int s1, .int s2, .int s3, .ref s4]) bf267_197 bf267_198 rfl rfl).trans ?_
  exact bkS bf267_198 bf267_201 rfl (by decide +kernel) (Nat.le_of_ble_eq_true rfl) rfl (bhd rfl)
theorem bk267_259 {w : am_Wd} {l0 : Nat} {l1 : Nat} {l2 : Nat} {l3 : Nat} {l4 : Int32} {s0 : Int32} : am_run 267 259 [some (.ref l0), some (.ref l1), some (.ref l2), some (.ref l3), some (.int l4), none, none, none] [.int s0] w = am_run 267 1432 [some (.ref l0), some (.ref l1), some (.ref l2), some (.ref l3), some (.int l4), none, none, none] [] w := by
  refine (bu (ls'' := [some (.ref l0), some (.ref l1), some (.ref l2), some (.ref l3), some (.int l4), none, none, none]) (st' := []) bf267_259 bf267_261 rfl rfl).trans ?_
  refine (bu (ls'' := [some (.ref l0), some (.ref l1), some (.ref l2), some (.ref l3), some (.int l4), none, none, none]) (st' := []) bf267_261 bf267_1432 rfl rfl).trans ?_
  rfl
theorem bk267_285 {w : am_Wd} {l0 : Nat} {l1 : Nat} {l2 : Nat} {l3 : Nat} {l4 : Int32} {s0 : Int32} {s1 : Int32} {s2 : Nat} : am_run 267 285 [some (.ref l0), some (.ref l1), some (.ref l2), some (.ref l3), some (.int l4), none, none, none] [.int s0, .int s1, .ref s2] w = (am_ri 0 w l0 (l4 + (nI 3))).bind fun v => am_run 267 291 [some (.ref l0), some (.ref l1), some (.ref l2), some (.ref l3), some (.int l4), none, none, none] (.int v :: [.int s0, .int s1, .ref s2]) w := by
  refine (bu (ls'' := [some (.ref l0), some (.ref l1), some (.ref l2), some (.ref l3), some (.int l4), none, none, none]) (st' := [.ref l0, .int s0, .int s1, .ref s2]) bf267_285 bf267_286 rfl rfl).trans ?_
  refine (bu (ls'' := [some (.ref l0), some (.ref l1), some (.ref l2), some (.ref l3), some (.int l4), none, none, none]) (st' := [.int l4, .ref l0, .int s0, .int s1, .ref s2]) bf267_286 bf267_288 rfl rfl).trans ?_
  refine (bu (ls'' := [some (.ref l0), some (.ref l1), some (.ref l2), some (.ref l3), some (.int l4), none, none, none]) (st' := [.int (nI 3), .int l4, .ref l0, .int s0, .int s1, .ref s2]) bf267_288 bf267_289 rfl rfl).trans ?_
  refine (bu (ls'' := [some (.ref l0), some (.ref l1), some (.ref l2), some (.ref l3), some (.int l4), none, none, none]) (st' := [.int (l4 + (nI 3)), .ref l0, .int s0, .int s1, .ref s2]) bf267_289 bf267_290 rfl rfl).trans ?_
  exact bh bf267_290 bf267_291 rfl (fun _ _ => am_ge_rf w) rfl
theorem bk267_373 {w : am_Wd} {l0 : Nat} {l1 : Nat} {l2 : Nat} {l3 : Nat} {l4 : Int32} {s0 : Int32} {s1 : Int32} {s2 : Int32} {s3 : Int32} {s4 : Nat} : am_run 267 373 [some (.ref l0), some (.ref l1), some (.ref l2), some (.ref l3), some (.int l4), none, none, none] [.int s0, .int s1, .int s2, .int s3, .ref s4] w = if s0 = nI 0 then am_run 267 380 [some (.ref l0), some (.ref l1), some (.ref l2), some (.ref l3), some (.int l4), none, none, none] [.int s1, .int s2, .int s3, .ref s4] w else am_run 267 376 [some (.ref l0), some (.ref l1), some (.ref l2), some (.ref l3), some (.int l4), none, none, none] [.int s1, .int s2, .int s3, .ref s4] w := by
  exact bifc bf267_373 rfl bf267_380 bf267_376 rfl rfl rfl
theorem bk267_449 {w : am_Wd} {l0 : Nat} {l1 : Nat} {l2 : Nat} {l3 : Nat} {l4 : Int32} {s0 : Int32} {s1 : Int32} {s2 : Nat} : am_run 267 449 [some (.ref l0), some (.ref l1), some (.ref l2), some (.ref l3), some (.int l4), none, none, none] [.int s0, .int s1, .ref s2] w = (am_x 253 [.ref s2, .int s1, .int s0, .ref l3] w).bind fun r => bct r fun v w' => am_run 267 453 [some (.ref l0), some (.ref l1), some (.ref l2), some (.ref l3), some (.int l4), none, none, none] (v.toList ++ []) w' := by
  refine (bu (ls'' := [some (.ref l0), some (.ref l1), some (.ref l2), some (.ref l3), some (.int l4), none, none, none]) (st' := [.ref l3, .int s0, .int s1, .ref s2]) bf267_449 bf267_450 rfl rfl).trans ?_
  exact bkS bf267_450 bf267_453 rfl (by decide +kernel) (Nat.le_of_ble_eq_true rfl) rfl (bhd rfl)
theorem bk267_505 {w : am_Wd} {l0 : Nat} {l1 : Nat} {l2 : Nat} {l3 : Nat} {l4 : Int32} {s0 : Int32} {s1 : Int32} {s2 : Nat} : am_run 267 505 [some (.ref l0), some (.ref l1), some (.ref l2), some (.ref l3), some (.int l4), none, none, none] [.int s0, .int s1, .ref s2] w = (am_ri 0 w l0 (l4 + (nI 3))).bind fun v => am_run 267 511 [some (.ref l0), some (.ref l1), some (.ref l2), some (.ref l3), some (.int l4), none, none, none] (.int v :: [.int s0, .int s1, .ref s2]) w := by
  refine (bu (ls'' := [some (.ref l0), some (.ref l1), some (.ref l2), some (.ref l3), some (.int l4), none, none, none]) (st' := [.ref l0, .int s0, .int s1, .ref s2]) bf267_505 bf267_506 rfl rfl).trans ?_
  refine (bu (ls'' := [some (.ref l0), some (.ref l1), some (.ref l2), some (.ref l3), some (.int l4), none, none, none]) (st' := [.int l4, .ref l0, .int s0, .int s1, .ref s2]) bf267_506 bf267_508 rfl rfl).trans ?_
  refine (bu (ls'' := [some (.ref l0), some (.ref l1), some (.ref l2), some (.ref l3), some (.int l4), none, none, none]) (st' := [.int (nI 3), .int l4, .ref l0, .int s0, .int s1, .ref s2]) bf267_508 bf267_509 rfl rfl).trans ?_
  refine (bu (ls'' := [some (.ref l0), some (.ref l1), some (.ref l2), some (.ref l3), some (.int l4), none, none, none]) (st' := [.int (l4 + (nI 3)), .ref l0, .int s0, .int s1, .ref s2]) bf267_509 bf267_510 rfl rfl).trans ?_
  exact bh bf267_510 bf267_511 rfl (fun _ _ => am_ge_rf w) rfl
theorem bk267_589 {w : am_Wd} {l0 : Nat} {l1 : Nat} {l2 : Nat} {l3 : Nat} {l4 : Int32} {s0 : Int32} {s1 : Int32} {s2 : Nat} : am_run 267 589 [some (.ref l0), some (.ref l1), some (.ref l2), some (.ref l3), some (.int l4), none, none, none] [.int s0, .int s1, .ref s2] w = (am_x 255 [.ref s2, .int s1, .int s0, .ref l3] w).bind fun r => bct r fun v w' => am_run 267 593 [some (.ref l0), some (.ref l1), some (.ref l2), some (.ref l3), some (.int l4), none, none, none] (v.toList ++ []) w' := by
  refine (bu (ls'' := [some (.ref l0), some (.ref l1), some (.ref l2), some (.ref l3), some (.int l4), none, none, none]) (st' := [.ref l3, .int s0, .int s1, .ref s2]) bf267_589 bf267_590 rfl rfl).trans ?_
  exact bkS bf267_590 bf267_593 rfl (by decide +kernel) (Nat.le_of_ble_eq_true rfl) rfl (bhd rfl)
theorem bk267_645 {w : am_Wd} {l0 : Nat} {l1 : Nat} {l2 : Nat} {l3 : Nat} {l4 : Int32} {s0 : Int32} {s1 : Int32} {s2 : Nat} : am_run 267 645 [some (.ref l0), some (.ref l1), some (.ref l2), some (.ref l3), some (.int l4), none, none, none] [.int s0, .int s1, .ref s2] w = (am_x 256 [.ref s2, .int s1, .int s0, .ref l3] w).bind fun r => bct r fun v w' => am_run 267 649 [some (.ref l0), some (.ref l1), some (.ref l2), some (.ref l3), some (.int l4), none, none, none] (v.toList ++ []) w' := by
  refine (bu (ls'' := [some (.ref l0), some (.ref l1), some (.ref l2), some (.ref l3), some (.int l4), none, none, none]) (st' := [.ref l3, .int s0, .int s1, .ref s2]) bf267_645 bf267_646 rfl rfl).trans ?_
  exact bkS bf267_646 bf267_649 rfl (by decide +kernel) (Nat.le_of_ble_eq_true rfl) rfl (bhd rfl)
theorem bk267_706 {w : am_Wd} {l0 : Nat} {l1 : Nat} {l2 : Nat} {l3 : Nat} {l4 : Int32} {s0 : Int32} {s1 : Nat} : am_run 267 706 [some (.ref l0), some (.ref l1), some (.ref l2), some (.ref l3), some (.int l4), none, none, none] [.int s0, .ref s1] w = (am_ri 0 w l0 (l4 + (nI 2))).bind fun v => am_run 267 712 [some (.ref l0), some (.ref l1), some (.ref l2), some (.ref l3), some (.int l4), none, none, none] (.int v :: [.int s0, .ref s1]) w := by
  refine (bu (ls'' := [some (.ref l0), some (.ref l1), some (.ref l2), some (.ref l3), some (.int l4), none, none, none]) (st' := [.ref l0, .int s0, .ref s1]) bf267_706 bf267_707 rfl rfl).trans ?_
  refine (bu (ls'' := [some (.ref l0), some (.ref l1), some (.ref l2), some (.ref l3), some (.int l4), none, none, none]) (st' := [.int l4, .ref l0, .int s0, .ref s1]) bf267_707 bf267_709 rfl rfl).trans ?_
  refine (bu (ls'' := [some (.ref l0), some (.ref l1), some (.ref l2), some (.ref l3), some (.int l4), none, none, none]) (st' := [.int (nI 2), .int l4, .ref l0, .int s0, .ref s1]) bf267_709 bf267_710 rfl rfl).trans ?_
  refine (bu (ls'' := [some (.ref l0), some (.ref l1), some (.ref l2), some (.ref l3), some (.int l4), none, none, none]) (st' := [.int (l4 + (nI 2)), .ref l0, .int s0, .ref s1]) bf267_710 bf267_711 rfl rfl).trans ?_
  exact bh bf267_711 bf267_712 rfl (fun _ _ => am_ge_rf w) rfl
theorem bk267_743 {w : am_Wd} {l0 : Nat} {l1 : Nat} {l2 : Nat} {l3 : Nat} {l4 : Int32} {s0 : Int32} : am_run 267 743 [some (.ref l0), some (.ref l1), some (.ref l2), some (.ref l3), some (.int l4), none, none, none] [.int s0] w = am_run 267 1432 [some (.ref l0), some (.ref l1), some (.ref l2), some (.ref l3), some (.int l4), none, none, none] [] w := by
  refine (bu (ls'' := [some (.ref l0), some (.ref l1), some (.ref l2), some (.ref l3), some (.int l4), none, none, none]) (st' := []) bf267_743 bf267_745 rfl rfl).trans ?_
  refine (bu (ls'' := [some (.ref l0), some (.ref l1), some (.ref l2), some (.ref l3), some (.int l4), none, none, none]) (st' := []) bf267_745 bf267_1432 rfl rfl).trans ?_
  rfl
theorem bk267_774 {w : am_Wd} {l0 : Nat} {l1 : Nat} {l2 : Nat} {l3 : Nat} {l4 : Int32} {s0 : Int32} {s1 : Nat} : am_run 267 774 [some (.ref l0), some (.ref l1), some (.ref l2), some (.ref l3), some (.int l4), none, none, none] [.int s0, .ref s1] w = (am_ri 0 w l0 (l4 + (nI 2))).bind fun v => am_run 267 780 [some (.ref l0), some (.ref l1), some (.ref l2), some (.ref l3), some (.int l4), none, none, none] (.int v :: [.int s0, .ref s1]) w := by
  refine (bu (ls'' := [some (.ref l0), some (.ref l1), some (.ref l2), some (.ref l3), some (.int l4), none, none, none]) (st' := [.ref l0, .int s0, .ref s1]) bf267_774 bf267_775 rfl rfl).trans ?_
  refine (bu (ls'' := [some (.ref l0), some (.ref l1), some (.ref l2), some (.ref l3), some (.int l4), none, none, none]) (st' := [.int l4, .ref l0, .int s0, .ref s1]) bf267_775 bf267_777 rfl rfl).trans ?_
  refine (bu (ls'' := [some (.ref l0), some (.ref l1), some (.ref l2), some (.ref l3), some (.int l4), none, none, none]) (st' := [.int (nI 2), .int l4, .ref l0, .int s0, .ref s1]) bf267_777 bf267_778 rfl rfl).trans ?_
  refine (bu (ls'' := [some (.ref l0), some (.ref l1), some (.ref l2), some (.ref l3), some (.int l4), none, none, none]) (st' := [.int (l4 + (nI 2)), .ref l0, .int s0, .ref s1]) bf267_778 bf267_779 rfl rfl).trans ?_
  exact bh bf267_779 bf267_780 rfl (fun _ _ => am_ge_rf w) rfl
theorem bk267_811 {w : am_Wd} {l0 : Nat} {l1 : Nat} {l2 : Nat} {l3 : Nat} {l4 : Int32} {s0 : Int32} : am_run 267 811 [some (.ref l0), some (.ref l1), some (.ref l2), some (.ref l3), some (.int l4), none, none, none] [.int s0] w = am_run 267 1432 [some (.ref l0), some (.ref l1), some (.ref l2), some (.ref l3), some (.int l4), none, none, none] [] w := by
  refine (bu (ls'' := [some (.ref l0), some (.ref l1), some (.ref l2), some (.ref l3), some (.int l4), none, none, none]) (st' := []) bf267_811 bf267_813 rfl rfl).trans ?_
  refine (bu (ls'' := [some (.ref l0), some (.ref l1), some (.ref l2), some (.ref l3), some (.int l4), none, none, none]) (st' := []) bf267_813 bf267_1432 rfl rfl).trans ?_
  rfl
theorem bk267_852 {w : am_Wd} {l0 : Nat} {l1 : Nat} {l2 : Nat} {l3 : Nat} {l4 : Int32} {s0 : Int32} : am_run 267 852 [some (.ref l0), some (.ref l1), some (.ref l2), some (.ref l3), some (.int l4), none, none, none] [.int s0] w = (am_ri 0 w l0 (l4 + (nI 1))).bind fun v => am_run 267 861 [some (.ref l0), some (.ref l1), some (.ref l2), some (.ref l3), some (.int l4), none, none, none] (.int v :: [.ref l2]) w := by
  refine (bu (ls'' := [some (.ref l0), some (.ref l1), some (.ref l2), some (.ref l3), some (.int l4), none, none, none]) (st' := []) bf267_852 bf267_854 rfl rfl).trans ?_
  refine (bu (ls'' := [some (.ref l0), some (.ref l1), some (.ref l2), some (.ref l3), some (.int l4), none, none, none]) (st' := [.ref l2]) bf267_854 bf267_855 rfl rfl).trans ?_
  refine (bu (ls'' := [some (.ref l0), some (.ref l1), some (.ref l2), some (.ref l3), some (.int l4), none, none, none]) (st' := [.ref l0, .ref l2]) bf267_855 bf267_856 rfl rfl).trans ?_
  refine (bu (ls'' := [some (.ref l0), some (.ref l1), some (.ref l2), some (.ref l3), some (.int l4), none, none, none]) (st' := [.int l4, .ref l0, .ref l2]) bf267_856 bf267_858 rfl rfl).trans ?_
  refine (bu (ls'' := [some (.ref l0), some (.ref l1), some (.ref l2), some (.ref l3), some (.int l4), none, none, none]) (st' := [.int (nI 1), .int l4, .ref l0, .ref l2]) bf267_858 bf267_859 rfl rfl).trans ?_
  refine (bu (ls'' := [some (.ref l0), some (.ref l1), some (.ref l2), some (.ref l3), some (.int l4), none, none, none]) (st' := [.int (l4 + (nI 1)), .ref l0, .ref l2]) bf267_859 bf267_860 rfl rfl).trans ?_
  exact bh bf267_860 bf267_861 rfl (fun _ _ => am_ge_rf w) rfl
theorem bk267_907 {w : am_Wd} {l0 : Nat} {l1 : Nat} {l2 : Nat} {l3 : Nat} {l4 : Int32} {s0 : Int32} {s1 : Nat} : am_run 267 907 [some (.ref l0), some (.ref l1), some (.ref l2), some (.ref l3), some (.int l4), none, none, none] [.int s0, .ref s1] w = (am_ri 0 w l0 (l4 + (nI 2))).bind fun v => am_run 267 913 [some (.ref l0), some (.ref l1), some (.ref l2), some (.ref l3), some (.int l4), none, none, none] (.int v :: [.int s0, .ref s1]) w := by
  refine (bu (ls'' := [some (.ref l0), some (.ref l1), some (.ref l2), some (.ref l3), some (.int l4), none, none, none]) (st' := [.ref l0, .int s0, .ref s1]) bf267_907 bf267_908 rfl rfl).trans ?_
  refine (bu (ls'' := [some (.ref l0), some (.ref l1), some (.ref l2), some (.ref l3), some (.int l4), none, none, none]) (st' := [.int l4, .ref l0, .int s0, .ref s1]) bf267_908 bf267_910 rfl rfl).trans ?_
  refine (bu (ls'' := [some (.ref l0), some (.ref l1), some (.ref l2), some (.ref l3), some (.int l4), none, none, none]) (st' := [.int (nI 2), .int l4, .ref l0, .int s0, .ref s1]) bf267_910 bf267_911 rfl rfl).trans ?_
  refine (bu (ls'' := [some (.ref l0), some (.ref l1), some (.ref l2), some (.ref l3), some (.int l4), none, none, none]) (st' := [.int (l4 + (nI 2)), .ref l0, .int s0, .ref s1]) bf267_911 bf267_912 rfl rfl).trans ?_
  exact bh bf267_912 bf267_913 rfl (fun _ _ => am_ge_rf w) rfl
theorem bk267_944 {w : am_Wd} {l0 : Nat} {l1 : Nat} {l2 : Nat} {l3 : Nat} {l4 : Int32} {s0 : Int32} : am_run 267 944 [some (.ref l0), some (.ref l1), some (.ref l2), some (.ref l3), some (.int l4), none, none, none] [.int s0] w = am_run 267 1432 [some (.ref l0), some (.ref l1), some (.ref l2), some (.ref l3), some (.int l4), none, none, none] [] w := by
  refine (bu (ls'' := [some (.ref l0), some (.ref l1), some (.ref l2), some (.ref l3), some (.int l4), none, none, none]) (st' := []) bf267_944 bf267_946 rfl rfl).trans ?_
  refine (bu (ls'' := [some (.ref l0), some (.ref l1), some (.ref l2), some (.ref l3), some (.int l4), none, none, none]) (st' := []) bf267_946 bf267_1432 rfl rfl).trans ?_
  rfl
theorem bk267_972 {w : am_Wd} {l0 : Nat} {l1 : Nat} {l2 : Nat} {l3 : Nat} {l4 : Int32} {s0 : Nat} : am_run 267 972 [some (.ref l0), some (.ref l1), some (.ref l2), some (.ref l3), some (.int l4), none, none, none] [.ref s0] w = am_run 267 1432 [some (.ref l0), some (.ref l1), some (.ref l2), some (.ref l3), some (.int l4), none, none, none] [] w := by
  refine (bu (ls'' := [some (.ref l0), some (.ref l1), some (.ref l2), some (.ref l3), some (.int l4), none, none, none]) (st' := []) bf267_972 bf267_974 rfl rfl).trans ?_
  refine (bu (ls'' := [some (.ref l0), some (.ref l1), some (.ref l2), some (.ref l3), some (.int l4), none, none, none]) (st' := []) bf267_974 bf267_1432 rfl rfl).trans ?_
  rfl
theorem bk267_1000 {w : am_Wd} {l0 : Nat} {l1 : Nat} {l2 : Nat} {l3 : Nat} {l4 : Int32} {s0 : Int32} : am_run 267 1000 [some (.ref l0), some (.ref l1), some (.ref l2), some (.ref l3), some (.int l4), none, none, none] [.int s0] w = (am_ri 0 w l0 (l4 + (nI 1))).bind fun v => am_run 267 1009 [some (.ref l0), some (.ref l1), some (.ref l2), some (.ref l3), some (.int l4), none, none, none] (.int v :: [.ref l2]) w := by
  refine (bu (ls'' := [some (.ref l0), some (.ref l1), some (.ref l2), some (.ref l3), some (.int l4), none, none, none]) (st' := []) bf267_1000 bf267_1002 rfl rfl).trans ?_
  refine (bu (ls'' := [some (.ref l0), some (.ref l1), some (.ref l2), some (.ref l3), some (.int l4), none, none, none]) (st' := [.ref l2]) bf267_1002 bf267_1003 rfl rfl).trans ?_
  refine (bu (ls'' := [some (.ref l0), some (.ref l1), some (.ref l2), some (.ref l3), some (.int l4), none, none, none]) (st' := [.ref l0, .ref l2]) bf267_1003 bf267_1004 rfl rfl).trans ?_
  refine (bu (ls'' := [some (.ref l0), some (.ref l1), some (.ref l2), some (.ref l3), some (.int l4), none, none, none]) (st' := [.int l4, .ref l0, .ref l2]) bf267_1004 bf267_1006 rfl rfl).trans ?_
  refine (bu (ls'' := [some (.ref l0), some (.ref l1), some (.ref l2), some (.ref l3), some (.int l4), none, none, none]) (st' := [.int (nI 1), .int l4, .ref l0, .ref l2]) bf267_1006 bf267_1007 rfl rfl).trans ?_
  refine (bu (ls'' := [some (.ref l0), some (.ref l1), some (.ref l2), some (.ref l3), some (.int l4), none, none, none]) (st' := [.int (l4 + (nI 1)), .ref l0, .ref l2]) bf267_1007 bf267_1008 rfl rfl).trans ?_
  exact bh bf267_1008 bf267_1009 rfl (fun _ _ => am_ge_rf w) rfl
theorem bk267_1055 {w : am_Wd} {l0 : Nat} {l1 : Nat} {l2 : Nat} {l3 : Nat} {l4 : Int32} {s0 : Int32} {s1 : Nat} : am_run 267 1055 [some (.ref l0), some (.ref l1), some (.ref l2), some (.ref l3), some (.int l4), none, none, none] [.int s0, .ref s1] w = (am_ri 0 w l0 (l4 + (nI 2))).bind fun v => am_run 267 1061 [some (.ref l0), some (.ref l1), some (.ref l2), some (.ref l3), some (.int l4), none, none, none] (.int v :: [.int s0, .ref s1]) w := by
  refine (bu (ls'' := [some (.ref l0), some (.ref l1), some (.ref l2), some (.ref l3), some (.int l4), none, none, none]) (st' := [.ref l0, .int s0, .ref s1]) bf267_1055 bf267_1056 rfl rfl).trans ?_
  refine (bu (ls'' := [some (.ref l0), some (.ref l1), some (.ref l2), some (.ref l3), some (.int l4), none, none, none]) (st' := [.int l4, .ref l0, .int s0, .ref s1]) bf267_1056 bf267_1058 rfl rfl).trans ?_
  refine (bu (ls'' := [some (.ref l0), some (.ref l1), some (.ref l2), some (.ref l3), some (.int l4), none, none, none]) (st' := [.int (nI 2), .int l4, .ref l0, .int s0, .ref s1]) bf267_1058 bf267_1059 rfl rfl).trans ?_
  refine (bu (ls'' := [some (.ref l0), some (.ref l1), some (.ref l2), some (.ref l3), some (.int l4), none, none, none]) (st' := [.int (l4 + (nI 2)), .ref l0, .int s0, .ref s1]) bf267_1059 bf267_1060 rfl rfl).trans ?_
  exact bh bf267_1060 bf267_1061 rfl (fun _ _ => am_ge_rf w) rfl
theorem bk267_1095 {w : am_Wd} {l0 : Nat} {l1 : Nat} {l2 : Nat} {l3 : Nat} {l4 : Int32} {s0 : Int32} {s1 : Nat} : am_run 267 1095 [some (.ref l0), some (.ref l1), some (.ref l2), some (.ref l3), some (.int l4), none, none, none] [.int s0, .ref s1] w = (am_ri 0 w l0 (l4 + (nI 2))).bind fun v => am_run 267 1101 [some (.ref l0), some (.ref l1), some (.ref l2), some (.ref l3), some (.int l4), none, none, none] (.int v :: [.int s0, .ref s1]) w := by
  refine (bu (ls'' := [some (.ref l0), some (.ref l1), some (.ref l2), some (.ref l3), some (.int l4), none, none, none]) (st' := [.ref l0, .int s0, .ref s1]) bf267_1095 bf267_1096 rfl rfl).trans ?_
  refine (bu (ls'' := [some (.ref l0), some (.ref l1), some (.ref l2), some (.ref l3), some (.int l4), none, none, none]) (st' := [.int l4, .ref l0, .int s0, .ref s1]) bf267_1096 bf267_1098 rfl rfl).trans ?_
  refine (bu (ls'' := [some (.ref l0), some (.ref l1), some (.ref l2), some (.ref l3), some (.int l4), none, none, none]) (st' := [.int (nI 2), .int l4, .ref l0, .int s0, .ref s1]) bf267_1098 bf267_1099 rfl rfl).trans ?_
  refine (bu (ls'' := [some (.ref l0), some (.ref l1), some (.ref l2), some (.ref l3), some (.int l4), none, none, none]) (st' := [.int (l4 + (nI 2)), .ref l0, .int s0, .ref s1]) bf267_1099 bf267_1100 rfl rfl).trans ?_
  exact bh bf267_1100 bf267_1101 rfl (fun _ _ => am_ge_rf w) rfl
theorem bk267_1132 {w : am_Wd} {l0 : Nat} {l1 : Nat} {l2 : Nat} {l3 : Nat} {l4 : Int32} {s0 : Int32} : am_run 267 1132 [some (.ref l0), some (.ref l1), some (.ref l2), some (.ref l3), some (.int l4), none, none, none] [.int s0] w = (am_ri 0 w l0 (l4 + (nI 1))).bind fun v => am_run 267 1141 [some (.ref l0), some (.ref l1), some (.ref l2), some (.ref l3), some (.int l4), none, none, none] (.int v :: [.ref l2]) w := by
  refine (bu (ls'' := [some (.ref l0), some (.ref l1), some (.ref l2), some (.ref l3), some (.int l4), none, none, none]) (st' := []) bf267_1132 bf267_1134 rfl rfl).trans ?_
  refine (bu (ls'' := [some (.ref l0), some (.ref l1), some (.ref l2), some (.ref l3), some (.int l4), none, none, none]) (st' := [.ref l2]) bf267_1134 bf267_1135 rfl rfl).trans ?_
  refine (bu (ls'' := [some (.ref l0), some (.ref l1), some (.ref l2), some (.ref l3), some (.int l4), none, none, none]) (st' := [.ref l0, .ref l2]) bf267_1135 bf267_1136 rfl rfl).trans ?_
  refine (bu (ls'' := [some (.ref l0), some (.ref l1), some (.ref l2), some (.ref l3), some (.int l4), none, none, none]) (st' := [.int l4, .ref l0, .ref l2]) bf267_1136 bf267_1138 rfl rfl).trans ?_
  refine (bu (ls'' := [some (.ref l0), some (.ref l1), some (.ref l2), some (.ref l3), some (.int l4), none, none, none]) (st' := [.int (nI 1), .int l4, .ref l0, .ref l2]) bf267_1138 bf267_1139 rfl rfl).trans ?_
  refine (bu (ls'' := [some (.ref l0), some (.ref l1), some (.ref l2), some (.ref l3), some (.int l4), none, none, none]) (st' := [.int (l4 + (nI 1)), .ref l0, .ref l2]) bf267_1139 bf267_1140 rfl rfl).trans ?_
  exact bh bf267_1140 bf267_1141 rfl (fun _ _ => am_ge_rf w) rfl
theorem bk267_1187 {w : am_Wd} {l0 : Nat} {l1 : Nat} {l2 : Nat} {l3 : Nat} {l4 : Int32} {s0 : Int32} {s1 : Nat} : am_run 267 1187 [some (.ref l0), some (.ref l1), some (.ref l2), some (.ref l3), some (.int l4), none, none, none] [.int s0, .ref s1] w = (am_ri 0 w l0 (l4 + (nI 2))).bind fun v => am_run 267 1193 [some (.ref l0), some (.ref l1), some (.ref l2), some (.ref l3), some (.int l4), none, none, none] (.int v :: [.int s0, .ref s1]) w := by
  refine (bu (ls'' := [some (.ref l0), some (.ref l1), some (.ref l2), some (.ref l3), some (.int l4), none, none, none]) (st' := [.ref l0, .int s0, .ref s1]) bf267_1187 bf267_1188 rfl rfl).trans ?_
  refine (bu (ls'' := [some (.ref l0), some (.ref l1), some (.ref l2), some (.ref l3), some (.int l4), none, none, none]) (st' := [.int l4, .ref l0, .int s0, .ref s1]) bf267_1188 bf267_1190 rfl rfl).trans ?_
  refine (bu (ls'' := [some (.ref l0), some (.ref l1), some (.ref l2), some (.ref l3), some (.int l4), none, none, none]) (st' := [.int (nI 2), .int l4, .ref l0, .int s0, .ref s1]) bf267_1190 bf267_1191 rfl rfl).trans ?_
  refine (bu (ls'' := [some (.ref l0), some (.ref l1), some (.ref l2), some (.ref l3), some (.int l4), none, none, none]) (st' := [.int (l4 + (nI 2)), .ref l0, .int s0, .ref s1]) bf267_1191 bf267_1192 rfl rfl).trans ?_
  exact bh bf267_1192 bf267_1193 rfl (fun _ _ => am_ge_rf w) rfl
theorem bk267_1224 {w : am_Wd} {l0 : Nat} {l1 : Nat} {l2 : Nat} {l3 : Nat} {l4 : Int32} {s0 : UInt64} : am_run 267 1224 [some (.ref l0), some (.ref l1), some (.ref l2), some (.ref l3), some (.int l4), none, none, none] [.double s0] w = am_run 267 1432 [some (.ref l0), some (.ref l1), some (.ref l2), some (.ref l3), some (.int l4), none, none, none] [] w := by
  refine (bu (ls'' := [some (.ref l0), some (.ref l1), some (.ref l2), some (.ref l3), some (.int l4), none, none, none]) (st' := []) bf267_1224 bf267_1226 rfl rfl).trans ?_
  refine (bu (ls'' := [some (.ref l0), some (.ref l1), some (.ref l2), some (.ref l3), some (.int l4), none, none, none]) (st' := []) bf267_1226 bf267_1432 rfl rfl).trans ?_
  rfl
theorem bk267_1255 {w : am_Wd} {l0 : Nat} {l1 : Nat} {l2 : Nat} {l3 : Nat} {l4 : Int32} {s0 : Int32} {s1 : Nat} : am_run 267 1255 [some (.ref l0), some (.ref l1), some (.ref l2), some (.ref l3), some (.int l4), none, none, none] [.int s0, .ref s1] w = (am_ri 0 w l0 (l4 + (nI 2))).bind fun v => am_run 267 1261 [some (.ref l0), some (.ref l1), some (.ref l2), some (.ref l3), some (.int l4), none, none, none] (.int v :: [.int s0, .ref s1]) w := by
  refine (bu (ls'' := [some (.ref l0), some (.ref l1), some (.ref l2), some (.ref l3), some (.int l4), none, none, none]) (st' := [.ref l0, .int s0, .ref s1]) bf267_1255 bf267_1256 rfl rfl).trans ?_
  refine (bu (ls'' := [some (.ref l0), some (.ref l1), some (.ref l2), some (.ref l3), some (.int l4), none, none, none]) (st' := [.int l4, .ref l0, .int s0, .ref s1]) bf267_1256 bf267_1258 rfl rfl).trans ?_
  refine (bu (ls'' := [some (.ref l0), some (.ref l1), some (.ref l2), some (.ref l3), some (.int l4), none, none, none]) (st' := [.int (nI 2), .int l4, .ref l0, .int s0, .ref s1]) bf267_1258 bf267_1259 rfl rfl).trans ?_
  refine (bu (ls'' := [some (.ref l0), some (.ref l1), some (.ref l2), some (.ref l3), some (.int l4), none, none, none]) (st' := [.int (l4 + (nI 2)), .ref l0, .int s0, .ref s1]) bf267_1259 bf267_1260 rfl rfl).trans ?_
  exact bh bf267_1260 bf267_1261 rfl (fun _ _ => am_ge_rf w) rfl
theorem bk267_1292 {w : am_Wd} {l0 : Nat} {l1 : Nat} {l2 : Nat} {l3 : Nat} {l4 : Int32} {s0 : Int32} : am_run 267 1292 [some (.ref l0), some (.ref l1), some (.ref l2), some (.ref l3), some (.int l4), none, none, none] [.int s0] w = am_run 267 1432 [some (.ref l0), some (.ref l1), some (.ref l2), some (.ref l3), some (.int l4), none, none, none] [] w := by
  refine (bu (ls'' := [some (.ref l0), some (.ref l1), some (.ref l2), some (.ref l3), some (.int l4), none, none, none]) (st' := []) bf267_1292 bf267_1294 rfl rfl).trans ?_
  refine (bu (ls'' := [some (.ref l0), some (.ref l1), some (.ref l2), some (.ref l3), some (.int l4), none, none, none]) (st' := []) bf267_1294 bf267_1432 rfl rfl).trans ?_
  rfl
theorem bk267_1323 {w : am_Wd} {l0 : Nat} {l1 : Nat} {l2 : Nat} {l3 : Nat} {l4 : Int32} {s0 : Int32} {s1 : Nat} : am_run 267 1323 [some (.ref l0), some (.ref l1), some (.ref l2), some (.ref l3), some (.int l4), none, none, none] [.int s0, .ref s1] w = (am_ri 0 w l0 (l4 + (nI 2))).bind fun v => am_run 267 1329 [some (.ref l0), some (.ref l1), some (.ref l2), some (.ref l3), some (.int l4), none, none, none] (.int v :: [.int s0, .ref s1]) w := by
  refine (bu (ls'' := [some (.ref l0), some (.ref l1), some (.ref l2), some (.ref l3), some (.int l4), none, none, none]) (st' := [.ref l0, .int s0, .ref s1]) bf267_1323 bf267_1324 rfl rfl).trans ?_
  refine (bu (ls'' := [some (.ref l0), some (.ref l1), some (.ref l2), some (.ref l3), some (.int l4), none, none, none]) (st' := [.int l4, .ref l0, .int s0, .ref s1]) bf267_1324 bf267_1326 rfl rfl).trans ?_
  refine (bu (ls'' := [some (.ref l0), some (.ref l1), some (.ref l2), some (.ref l3), some (.int l4), none, none, none]) (st' := [.int (nI 2), .int l4, .ref l0, .int s0, .ref s1]) bf267_1326 bf267_1327 rfl rfl).trans ?_
  refine (bu (ls'' := [some (.ref l0), some (.ref l1), some (.ref l2), some (.ref l3), some (.int l4), none, none, none]) (st' := [.int (l4 + (nI 2)), .ref l0, .int s0, .ref s1]) bf267_1327 bf267_1328 rfl rfl).trans ?_
  exact bh bf267_1328 bf267_1329 rfl (fun _ _ => am_ge_rf w) rfl
theorem bk267_1363 {w : am_Wd} {l0 : Nat} {l1 : Nat} {l2 : Nat} {l3 : Nat} {l4 : Int32} {l5 : Int32} {s0 : Int32} {s1 : Nat} : am_run 267 1363 [some (.ref l0), some (.ref l1), some (.ref l2), some (.ref l3), some (.int l4), some (.int l5), none, none] [.int s0, .ref s1] w = (am_ri 0 w l0 (l4 + (nI 2))).bind fun v => am_run 267 1369 [some (.ref l0), some (.ref l1), some (.ref l2), some (.ref l3), some (.int l4), some (.int l5), none, none] (.int v :: [.int s0, .ref s1]) w := by
  refine (bu (ls'' := [some (.ref l0), some (.ref l1), some (.ref l2), some (.ref l3), some (.int l4), some (.int l5), none, none]) (st' := [.ref l0, .int s0, .ref s1]) bf267_1363 bf267_1364 rfl rfl).trans ?_
  refine (bu (ls'' := [some (.ref l0), some (.ref l1), some (.ref l2), some (.ref l3), some (.int l4), some (.int l5), none, none]) (st' := [.int l4, .ref l0, .int s0, .ref s1]) bf267_1364 bf267_1366 rfl rfl).trans ?_
  refine (bu (ls'' := [some (.ref l0), some (.ref l1), some (.ref l2), some (.ref l3), some (.int l4), some (.int l5), none, none]) (st' := [.int (nI 2), .int l4, .ref l0, .int s0, .ref s1]) bf267_1366 bf267_1367 rfl rfl).trans ?_
  refine (bu (ls'' := [some (.ref l0), some (.ref l1), some (.ref l2), some (.ref l3), some (.int l4), some (.int l5), none, none]) (st' := [.int (l4 + (nI 2)), .ref l0, .int s0, .ref s1]) bf267_1367 bf267_1368 rfl rfl).trans ?_
  exact bh bf267_1368 bf267_1369 rfl (fun _ _ => am_ge_rf w) rfl
theorem bk267_201 {w : am_Wd} {l0 : Nat} {l1 : Nat} {l2 : Nat} {l3 : Nat} {l4 : Int32} {s0 : Int32} : am_run 267 201 [some (.ref l0), some (.ref l1), some (.ref l2), some (.ref l3), some (.int l4), none, none, none] [.int s0] w = (am_ri 0 w l0 (l4 + (nI 1))).bind fun v => am_run 267 210 [some (.ref l0), some (.ref l1), some (.ref l2), some (.ref l3), some (.int l4), none, none, none] (.int v :: [.ref l2]) w := by
  refine (bu (ls'' := [some (.ref l0), some (.ref l1), some (.ref l2), some (.ref l3), some (.int l4), none, none, none]) (st' := []) bf267_201 bf267_203 rfl rfl).trans ?_
  refine (bu (ls'' := [some (.ref l0), some (.ref l1), some (.ref l2), some (.ref l3), some (.int l4), none, none, none]) (st' := [.ref l2]) bf267_203 bf267_204 rfl rfl).trans ?_
  refine (bu (ls'' := [some (.ref l0), some (.ref l1), some (.ref l2), some (.ref l3), some (.int l4), none, none, none]) (st' := [.ref l0, .ref l2]) bf267_204 bf267_205 rfl rfl).trans ?_
  refine (bu (ls'' := [some (.ref l0), some (.ref l1), some (.ref l2), some (.ref l3), some (.int l4), none, none, none]) (st' := [.int l4, .ref l0, .ref l2]) bf267_205 bf267_207 rfl rfl).trans ?_
  refine (bu (ls'' := [some (.ref l0), some (.ref l1), some (.ref l2), some (.ref l3), some (.int l4), none, none, none]) (st' := [.int (nI 1), .int l4, .ref l0, .ref l2]) bf267_207 bf267_208 rfl rfl).trans ?_
  refine (bu (ls'' := [some (.ref l0), some (.ref l1), some (.ref l2), some (.ref l3), some (.int l4), none, none, none]) (st' := [.int (l4 + (nI 1)), .ref l0, .ref l2]) bf267_208 bf267_209 rfl rfl).trans ?_
  exact bh bf267_209 bf267_210 rfl (fun _ _ => am_ge_rf w) rfl
theorem bk267_291 {w : am_Wd} {l0 : Nat} {l1 : Nat} {l2 : Nat} {l3 : Nat} {l4 : Int32} {s0 : Int32} {s1 : Int32} {s2 : Int32} {s3 : Nat} : am_run 267 291 [some (.ref l0), some (.ref l1), some (.ref l2), some (.ref l3), some (.int l4), none, none, none] [.int s0, .int s1, .int s2, .ref s3] w = if s0 = nI 0 then am_run 267 298 [some (.ref l0), some (.ref l1), some (.ref l2), some (.ref l3), some (.int l4), none, none, none] [.int s1, .int s2, .ref s3] w else am_run 267 294 [some (.ref l0), some (.ref l1), some (.ref l2), some (.ref l3), some (.int l4), none, none, none] [.int s1, .int s2, .ref s3] w := by
  exact bifc bf267_291 rfl bf267_298 bf267_294 rfl rfl rfl
theorem bk267_380 {w : am_Wd} {l0 : Nat} {l1 : Nat} {l2 : Nat} {l3 : Nat} {l4 : Int32} {s0 : Int32} {s1 : Int32} {s2 : Int32} {s3 : Nat} : am_run 267 380 [some (.ref l0), some (.ref l1), some (.ref l2), some (.ref l3), some (.int l4), none, none, none] [.int s0, .int s1, .int s2, .ref s3] w = am_run 267 381 [some (.ref l0), some (.ref l1), some (.ref l2), some (.ref l3), some (.int l4), none, none, none] [.int (nI 0), .int s0, .int s1, .int s2, .ref s3] w := by
  refine (bu (ls'' := [some (.ref l0), some (.ref l1), some (.ref l2), some (.ref l3), some (.int l4), none, none, none]) (st' := [.int (nI 0), .int s0, .int s1, .int s2, .ref s3]) bf267_380 bf267_381 rfl rfl).trans ?_
  rfl
theorem bk267_376 {w : am_Wd} {l0 : Nat} {l1 : Nat} {l2 : Nat} {l3 : Nat} {l4 : Int32} {s0 : Int32} {s1 : Int32} {s2 : Int32} {s3 : Nat} : am_run 267 376 [some (.ref l0), some (.ref l1), some (.ref l2), some (.ref l3), some (.int l4), none, none, none] [.int s0, .int s1, .int s2, .ref s3] w = am_run 267 381 [some (.ref l0), some (.ref l1), some (.ref l2), some (.ref l3), some (.int l4), none, none, none] [.int (nI 1), .int s0, .int s1, .int s2, .ref s3] w := by
  refine (bu (ls'' := [some (.ref l0), some (.ref l1), some (.ref l2), some (.ref l3), some (.int l4), none, none, none]) (st' := [.int (nI 1), .int s0, .int s1, .int s2, .ref s3]) bf267_376 bf267_377 rfl rfl).trans ?_
  refine (bu (ls'' := [some (.ref l0), some (.ref l1), some (.ref l2), some (.ref l3), some (.int l4), none, none, none]) (st' := [.int (nI 1), .int s0, .int s1, .int s2, .ref s3]) bf267_377 bf267_381 rfl rfl).trans ?_
  rfl
theorem bk267_453 {w : am_Wd} {l0 : Nat} {l1 : Nat} {l2 : Nat} {l3 : Nat} {l4 : Int32} {s0 : Int32} : am_run 267 453 [some (.ref l0), some (.ref l1), some (.ref l2), some (.ref l3), some (.int l4), none, none, none] [.int s0] w = (am_ri 0 w l0 (l4 + (nI 1))).bind fun v => am_run 267 462 [some (.ref l0), some (.ref l1), some (.ref l2), some (.ref l3), some (.int l4), none, none, none] (.int v :: [.ref l2]) w := by
  refine (bu (ls'' := [some (.ref l0), some (.ref l1), some (.ref l2), some (.ref l3), some (.int l4), none, none, none]) (st' := []) bf267_453 bf267_455 rfl rfl).trans ?_
  refine (bu (ls'' := [some (.ref l0), some (.ref l1), some (.ref l2), some (.ref l3), some (.int l4), none, none, none]) (st' := [.ref l2]) bf267_455 bf267_456 rfl rfl).trans ?_
  refine (bu (ls'' := [some (.ref l0), some (.ref l1), some (.ref l2), some (.ref l3), some (.int l4), none, none, none]) (st' := [.ref l0, .ref l2]) bf267_456 bf267_457 rfl rfl).trans ?_
  refine (bu (ls'' := [some (.ref l0), some (.ref l1), some (.ref l2), some (.ref l3), some (.int l4), none, none, none]) (st' := [.int l4, .ref l0, .ref l2]) bf267_457 bf267_459 rfl rfl).trans ?_
  refine (bu (ls'' := [some (.ref l0), some (.ref l1), some (.ref l2), some (.ref l3), some (.int l4), none, none, none]) (st' := [.int (nI 1), .int l4, .ref l0, .ref l2]) bf267_459 bf267_460 rfl rfl).trans ?_
  refine (bu (ls'' := [some (.ref l0), some (.ref l1), some (.ref l2), some (.ref l3), some (.int l4), none, none, none]) (st' := [.int (l4 + (nI 1)), .ref l0, .ref l2]) bf267_460 bf267_461 rfl rfl).trans ?_
  exact bh bf267_461 bf267_462 rfl (fun _ _ => am_ge_rf w) rfl
theorem bk267_511 {w : am_Wd} {l0 : Nat} {l1 : Nat} {l2 : Nat} {l3 : Nat} {l4 : Int32} {s0 : Int32} {s1 : Int32} {s2 : Int32} {s3 : Nat} : am_run 267 511 [some (.ref l0), some (.ref l1), some (.ref l2), some (.ref l3), some (.int l4), none, none, none] [.int s0, .int s1, .int s2, .ref s3] w = if s0 = nI 0 then am_run 267 518 [some (.ref l0), some (.ref l1), some (.ref l2), some (.ref l3), some (.int l4), none, none, none] [.int s1, .int s2, .ref s3] w else am_run 267 514 [some (.ref l0), some (.ref l1), some (.ref l2), some (.ref l3), some (.int l4), none, none, none] [.int s1, .int s2, .ref s3] w := by
  exact bifc bf267_511 rfl bf267_518 bf267_514 rfl rfl rfl
theorem bk267_593 {w : am_Wd} {l0 : Nat} {l1 : Nat} {l2 : Nat} {l3 : Nat} {l4 : Int32} {s0 : Int32} : am_run 267 593 [some (.ref l0), some (.ref l1), some (.ref l2), some (.ref l3), some (.int l4), none, none, none] [.int s0] w = (am_ri 0 w l0 (l4 + (nI 1))).bind fun v => am_run 267 602 [some (.ref l0), some (.ref l1), some (.ref l2), some (.ref l3), some (.int l4), none, none, none] (.int v :: [.ref l2]) w := by
  refine (bu (ls'' := [some (.ref l0), some (.ref l1), some (.ref l2), some (.ref l3), some (.int l4), none, none, none]) (st' := []) bf267_593 bf267_595 rfl rfl).trans ?_
  refine (bu (ls'' := [some (.ref l0), some (.ref l1), some (.ref l2), some (.ref l3), some (.int l4), none, none, none]) (st' := [.ref l2]) bf267_595 bf267_596 rfl rfl).trans ?_
  refine (bu (ls'' := [some (.ref l0), some (.ref l1), some (.ref l2), some (.ref l3), some (.int l4), none, none, none]) (st' := [.ref l0, .ref l2]) bf267_596 bf267_597 rfl rfl).trans ?_
  refine (bu (ls'' := [some (.ref l0), some (.ref l1), some (.ref l2), some (.ref l3), some (.int l4), none, none, none]) (st' := [.int l4, .ref l0, .ref l2]) bf267_597 bf267_599 rfl rfl).trans ?_
  refine (bu (ls'' := [some (.ref l0), some (.ref l1), some (.ref l2), some (.ref l3), some (.int l4), none, none, none]) (st' := [.int (nI 1), .int l4, .ref l0, .ref l2]) bf267_599 bf267_600 rfl rfl).trans ?_
  refine (bu (ls'' := [some (.ref l0), some (.ref l1), some (.ref l2), some (.ref l3), some (.int l4), none, none, none]) (st' := [.int (l4 + (nI 1)), .ref l0, .ref l2]) bf267_600 bf267_601 rfl rfl).trans ?_
  exact bh bf267_601 bf267_602 rfl (fun _ _ => am_ge_rf w) rfl
theorem bk267_649 {w : am_Wd} {l0 : Nat} {l1 : Nat} {l2 : Nat} {l3 : Nat} {l4 : Int32} {s0 : Int32} : am_run 267 649 [some (.ref l0), some (.ref l1), some (.ref l2), some (.ref l3), some (.int l4), none, none, none] [.int s0] w = (am_ri 0 w l0 (l4 + (nI 1))).bind fun v => am_run 267 658 [some (.ref l0), some (.ref l1), some (.ref l2), some (.ref l3), some (.int l4), none, none, none] (.int v :: [.ref l2]) w := by
  refine (bu (ls'' := [some (.ref l0), some (.ref l1), some (.ref l2), some (.ref l3), some (.int l4), none, none, none]) (st' := []) bf267_649 bf267_651 rfl rfl).trans ?_
  refine (bu (ls'' := [some (.ref l0), some (.ref l1), some (.ref l2), some (.ref l3), some (.int l4), none, none, none]) (st' := [.ref l2]) bf267_651 bf267_652 rfl rfl).trans ?_
  refine (bu (ls'' := [some (.ref l0), some (.ref l1), some (.ref l2), some (.ref l3), some (.int l4), none, none, none]) (st' := [.ref l0, .ref l2]) bf267_652 bf267_653 rfl rfl).trans ?_
  refine (bu (ls'' := [some (.ref l0), some (.ref l1), some (.ref l2), some (.ref l3), some (.int l4), none, none, none]) (st' := [.int l4, .ref l0, .ref l2]) bf267_653 bf267_655 rfl rfl).trans ?_
  refine (bu (ls'' := [some (.ref l0), some (.ref l1), some (.ref l2), some (.ref l3), some (.int l4), none, none, none]) (st' := [.int (nI 1), .int l4, .ref l0, .ref l2]) bf267_655 bf267_656 rfl rfl).trans ?_
  refine (bu (ls'' := [some (.ref l0), some (.ref l1), some (.ref l2), some (.ref l3), some (.int l4), none, none, none]) (st' := [.int (l4 + (nI 1)), .ref l0, .ref l2]) bf267_656 bf267_657 rfl rfl).trans ?_
  exact bh bf267_657 bf267_658 rfl (fun _ _ => am_ge_rf w) rfl
theorem bk267_712 {w : am_Wd} {l0 : Nat} {l1 : Nat} {l2 : Nat} {l3 : Nat} {l4 : Int32} {s0 : Int32} {s1 : Int32} {s2 : Nat} : am_run 267 712 [some (.ref l0), some (.ref l1), some (.ref l2), some (.ref l3), some (.int l4), none, none, none] [.int s0, .int s1, .ref s2] w = (am_kf w s2 11).bind fun _ => (am_x 178 [.ref s2, .int s1, .int s0] w).bind fun r => bct r fun v w' => am_run 267 715 [some (.ref l0), some (.ref l1), some (.ref l2), some (.ref l3), some (.int l4), none, none, none] (v.toList ++ []) w' := by
  exact bkV bf267_712 bf267_715 rfl (by decide +kernel) (Nat.le_of_ble_eq_true rfl) rfl (bhd rfl)
theorem bk267_780 {w : am_Wd} {l0 : Nat} {l1 : Nat} {l2 : Nat} {l3 : Nat} {l4 : Int32} {s0 : Int32} {s1 : Int32} {s2 : Nat} : am_run 267 780 [some (.ref l0), some (.ref l1), some (.ref l2), some (.ref l3), some (.int l4), none, none, none] [.int s0, .int s1, .ref s2] w = (am_kf w s2 11).bind fun _ => (am_x 180 [.ref s2, .int s1, .int s0] w).bind fun r => bct r fun v w' => am_run 267 783 [some (.ref l0), some (.ref l1), some (.ref l2), some (.ref l3), some (.int l4), none, none, none] (v.toList ++ []) w' := by
  exact bkV bf267_780 bf267_783 rfl (by decide +kernel) (Nat.le_of_ble_eq_true rfl) rfl (bhd rfl)
theorem bk267_861 {w : am_Wd} {l0 : Nat} {l1 : Nat} {l2 : Nat} {l3 : Nat} {l4 : Int32} {s0 : Int32} {s1 : Nat} : am_run 267 861 [some (.ref l0), some (.ref l1), some (.ref l2), some (.ref l3), some (.int l4), none, none, none] [.int s0, .ref s1] w = (am_ri 0 w l0 (l4 + (nI 2))).bind fun v => am_run 267 867 [some (.ref l0), some (.ref l1), some (.ref l2), some (.ref l3), some (.int l4), none, none, none] (.int v :: [.int s0, .ref s1]) w := by
  refine (bu (ls'' := [some (.ref l0), some (.ref l1), some (.ref l2), some (.ref l3), some (.int l4), none, none, none]) (st' := [.ref l0, .int s0, .ref s1]) bf267_861 bf267_862 rfl rfl).trans ?_
  refine (bu (ls'' := [some (.ref l0), some (.ref l1), some (.ref l2), some (.ref l3), some (.int l4), none, none, none]) (st' := [.int l4, .ref l0, .int s0, .ref s1]) bf267_862 bf267_864 rfl rfl).trans ?_
  refine (bu (ls'' := [some (.ref l0), some (.ref l1), some (.ref l2), some (.ref l3), some (.int l4), none, none, none]) (st' := [.int (nI 2), .int l4, .ref l0, .int s0, .ref s1]) bf267_864 bf267_865 rfl rfl).trans ?_
  refine (bu (ls'' := [some (.ref l0), some (.ref l1), some (.ref l2), some (.ref l3), some (.int l4), none, none, none]) (st' := [.int (l4 + (nI 2)), .ref l0, .int s0, .ref s1]) bf267_865 bf267_866 rfl rfl).trans ?_
  exact bh bf267_866 bf267_867 rfl (fun _ _ => am_ge_rf w) rfl
theorem bk267_913 {w : am_Wd} {l0 : Nat} {l1 : Nat} {l2 : Nat} {l3 : Nat} {l4 : Int32} {s0 : Int32} {s1 : Int32} {s2 : Nat} : am_run 267 913 [some (.ref l0), some (.ref l1), some (.ref l2), some (.ref l3), some (.int l4), none, none, none] [.int s0, .int s1, .ref s2] w = (am_kf w s2 11).bind fun _ => (am_x 182 [.ref s2, .int s1, .int s0] w).bind fun r => bct r fun v w' => am_run 267 916 [some (.ref l0), some (.ref l1), some (.ref l2), some (.ref l3), some (.int l4), none, none, none] (v.toList ++ []) w' := by
  exact bkV bf267_913 bf267_916 rfl (by decide +kernel) (Nat.le_of_ble_eq_true rfl) rfl (bhd rfl)
theorem bk267_1009 {w : am_Wd} {l0 : Nat} {l1 : Nat} {l2 : Nat} {l3 : Nat} {l4 : Int32} {s0 : Int32} {s1 : Nat} : am_run 267 1009 [some (.ref l0), some (.ref l1), some (.ref l2), some (.ref l3), some (.int l4), none, none, none] [.int s0, .ref s1] w = (am_ri 0 w l0 (l4 + (nI 2))).bind fun v => am_run 267 1015 [some (.ref l0), some (.ref l1), some (.ref l2), some (.ref l3), some (.int l4), none, none, none] (.int v :: [.int s0, .ref s1]) w := by
  refine (bu (ls'' := [some (.ref l0), some (.ref l1), some (.ref l2), some (.ref l3), some (.int l4), none, none, none]) (st' := [.ref l0, .int s0, .ref s1]) bf267_1009 bf267_1010 rfl rfl).trans ?_
  refine (bu (ls'' := [some (.ref l0), some (.ref l1), some (.ref l2), some (.ref l3), some (.int l4), none, none, none]) (st' := [.int l4, .ref l0, .int s0, .ref s1]) bf267_1010 bf267_1012 rfl rfl).trans ?_
  refine (bu (ls'' := [some (.ref l0), some (.ref l1), some (.ref l2), some (.ref l3), some (.int l4), none, none, none]) (st' := [.int (nI 2), .int l4, .ref l0, .int s0, .ref s1]) bf267_1012 bf267_1013 rfl rfl).trans ?_
  refine (bu (ls'' := [some (.ref l0), some (.ref l1), some (.ref l2), some (.ref l3), some (.int l4), none, none, none]) (st' := [.int (l4 + (nI 2)), .ref l0, .int s0, .ref s1]) bf267_1013 bf267_1014 rfl rfl).trans ?_
  exact bh bf267_1014 bf267_1015 rfl (fun _ _ => am_ge_rf w) rfl
theorem bk267_1061 {w : am_Wd} {l0 : Nat} {l1 : Nat} {l2 : Nat} {l3 : Nat} {l4 : Int32} {s0 : Int32} {s1 : Int32} {s2 : Nat} : am_run 267 1061 [some (.ref l0), some (.ref l1), some (.ref l2), some (.ref l3), some (.int l4), none, none, none] [.int s0, .int s1, .ref s2] w = (am_kf w s2 11).bind fun _ => (am_x 183 [.ref s2, .int s1, .int s0] w).bind fun r => bct r fun v w' => am_run 267 1064 [some (.ref l0), some (.ref l1), some (.ref l2), some (.ref l3), some (.int l4), none, none, none] (v.toList ++ []) w' := by
  exact bkV bf267_1061 bf267_1064 rfl (by decide +kernel) (Nat.le_of_ble_eq_true rfl) rfl (bhd rfl)
theorem bk267_1101 {w : am_Wd} {l0 : Nat} {l1 : Nat} {l2 : Nat} {l3 : Nat} {l4 : Int32} {s0 : Int32} {s1 : Int32} {s2 : Nat} : am_run 267 1101 [some (.ref l0), some (.ref l1), some (.ref l2), some (.ref l3), some (.int l4), none, none, none] [.int s0, .int s1, .ref s2] w = (am_kf w s2 11).bind fun _ => (am_x 184 [.ref s2, .int s1, .int s0] w).bind fun r => bct r fun v w' => am_run 267 1104 [some (.ref l0), some (.ref l1), some (.ref l2), some (.ref l3), some (.int l4), none, none, none] (v.toList ++ []) w' := by
  exact bkV bf267_1101 bf267_1104 rfl (by decide +kernel) (Nat.le_of_ble_eq_true rfl) rfl (bhd rfl)
theorem bk267_1141 {w : am_Wd} {l0 : Nat} {l1 : Nat} {l2 : Nat} {l3 : Nat} {l4 : Int32} {s0 : Int32} {s1 : Nat} : am_run 267 1141 [some (.ref l0), some (.ref l1), some (.ref l2), some (.ref l3), some (.int l4), none, none, none] [.int s0, .ref s1] w = (am_ri 0 w l0 (l4 + (nI 2))).bind fun v => am_run 267 1147 [some (.ref l0), some (.ref l1), some (.ref l2), some (.ref l3), some (.int l4), none, none, none] (.int v :: [.int s0, .ref s1]) w := by
  refine (bu (ls'' := [some (.ref l0), some (.ref l1), some (.ref l2), some (.ref l3), some (.int l4), none, none, none]) (st' := [.ref l0, .int s0, .ref s1]) bf267_1141 bf267_1142 rfl rfl).trans ?_
  refine (bu (ls'' := [some (.ref l0), some (.ref l1), some (.ref l2), some (.ref l3), some (.int l4), none, none, none]) (st' := [.int l4, .ref l0, .int s0, .ref s1]) bf267_1142 bf267_1144 rfl rfl).trans ?_
  refine (bu (ls'' := [some (.ref l0), some (.ref l1), some (.ref l2), some (.ref l3), some (.int l4), none, none, none]) (st' := [.int (nI 2), .int l4, .ref l0, .int s0, .ref s1]) bf267_1144 bf267_1145 rfl rfl).trans ?_
  refine (bu (ls'' := [some (.ref l0), some (.ref l1), some (.ref l2), some (.ref l3), some (.int l4), none, none, none]) (st' := [.int (l4 + (nI 2)), .ref l0, .int s0, .ref s1]) bf267_1145 bf267_1146 rfl rfl).trans ?_
  exact bh bf267_1146 bf267_1147 rfl (fun _ _ => am_ge_rf w) rfl
theorem bk267_1193 {w : am_Wd} {l0 : Nat} {l1 : Nat} {l2 : Nat} {l3 : Nat} {l4 : Int32} {s0 : Int32} {s1 : Int32} {s2 : Nat} : am_run 267 1193 [some (.ref l0), some (.ref l1), some (.ref l2), some (.ref l3), some (.int l4), none, none, none] [.int s0, .int s1, .ref s2] w = (am_kf w s2 11).bind fun _ => (am_x 264 [.ref s2, .int s1, .int s0] w).bind fun r => bct r fun v w' => am_run 267 1196 [some (.ref l0), some (.ref l1), some (.ref l2), some (.ref l3), some (.int l4), none, none, none] (v.toList ++ []) w' := by
  exact bkV bf267_1193 bf267_1196 rfl (by decide +kernel) (Nat.le_of_ble_eq_true rfl) rfl (bhd rfl)
theorem bk267_1261 {w : am_Wd} {l0 : Nat} {l1 : Nat} {l2 : Nat} {l3 : Nat} {l4 : Int32} {s0 : Int32} {s1 : Int32} {s2 : Nat} : am_run 267 1261 [some (.ref l0), some (.ref l1), some (.ref l2), some (.ref l3), some (.int l4), none, none, none] [.int s0, .int s1, .ref s2] w = (am_kf w s2 11).bind fun _ => (am_x 247 [.ref s2, .int s1, .int s0] w).bind fun r => bct r fun v w' => am_run 267 1264 [some (.ref l0), some (.ref l1), some (.ref l2), some (.ref l3), some (.int l4), none, none, none] (v.toList ++ []) w' := by
  exact bkV bf267_1261 bf267_1264 rfl (by decide +kernel) (Nat.le_of_ble_eq_true rfl) rfl (bhd rfl)
theorem bk267_1329 {w : am_Wd} {l0 : Nat} {l1 : Nat} {l2 : Nat} {l3 : Nat} {l4 : Int32} {s0 : Int32} {s1 : Int32} {s2 : Nat} : am_run 267 1329 [some (.ref l0), some (.ref l1), some (.ref l2), some (.ref l3), some (.int l4), none, none, none] [.int s0, .int s1, .ref s2] w = (am_kf w s2 11).bind fun _ => (am_x 231 [.ref s2, .int s1, .int s0] w).bind fun r => bct r fun v w' => am_run 267 1332 [some (.ref l0), some (.ref l1), some (.ref l2), some (.ref l3), some (.int l4), none, none, none] (v.toList ++ []) w' := by
  exact bkV bf267_1329 bf267_1332 rfl (by decide +kernel) (Nat.le_of_ble_eq_true rfl) rfl (bhd rfl)
theorem bk267_1369 {w : am_Wd} {l0 : Nat} {l1 : Nat} {l2 : Nat} {l3 : Nat} {l4 : Int32} {l5 : Int32} {s0 : Int32} {s1 : Int32} {s2 : Nat} : am_run 267 1369 [some (.ref l0), some (.ref l1), some (.ref l2), some (.ref l3), some (.int l4), some (.int l5), none, none] [.int s0, .int s1, .ref s2] w = (am_kf w s2 11).bind fun _ => (am_x 232 [.ref s2, .int s1, .int s0] w).bind fun r => bct r fun v w' => am_run 267 1372 [some (.ref l0), some (.ref l1), some (.ref l2), some (.ref l3), some (.int l4), some (.int l5), none, none] (v.toList ++ []) w' := by
  exact bkV bf267_1369 bf267_1372 rfl (by decide +kernel) (Nat.le_of_ble_eq_true rfl) rfl (bhd rfl)
theorem bk267_210 {w : am_Wd} {l0 : Nat} {l1 : Nat} {l2 : Nat} {l3 : Nat} {l4 : Int32} {s0 : Int32} {s1 : Nat} : am_run 267 210 [some (.ref l0), some (.ref l1), some (.ref l2), some (.ref l3), some (.int l4), none, none, none] [.int s0, .ref s1] w = (am_ri 0 w l0 (l4 + (nI 2))).bind fun v => am_run 267 216 [some (.ref l0), some (.ref l1), some (.ref l2), some (.ref l3), some (.int l4), none, none, none] (.int v :: [.int s0, .ref s1]) w := by
  refine (bu (ls'' := [some (.ref l0), some (.ref l1), some (.ref l2), some (.ref l3), some (.int l4), none, none, none]) (st' := [.ref l0, .int s0, .ref s1]) bf267_210 bf267_211 rfl rfl).trans ?_
  refine (bu (ls'' := [some (.ref l0), some (.ref l1), some (.ref l2), some (.ref l3), some (.int l4), none, none, none]) (st' := [.int l4, .ref l0, .int s0, .ref s1]) bf267_211 bf267_213 rfl rfl).trans ?_
  refine (bu (ls'' := [some (.ref l0), some (.ref l1), some (.ref l2), some (.ref l3), some (.int l4), none, none, none]) (st' := [.int (nI 2), .int l4, .ref l0, .int s0, .ref s1]) bf267_213 bf267_214 rfl rfl).trans ?_
  refine (bu (ls'' := [some (.ref l0), some (.ref l1), some (.ref l2), some (.ref l3), some (.int l4), none, none, none]) (st' := [.int (l4 + (nI 2)), .ref l0, .int s0, .ref s1]) bf267_214 bf267_215 rfl rfl).trans ?_
  exact bh bf267_215 bf267_216 rfl (fun _ _ => am_ge_rf w) rfl
theorem bk267_298 {w : am_Wd} {l0 : Nat} {l1 : Nat} {l2 : Nat} {l3 : Nat} {l4 : Int32} {s0 : Int32} {s1 : Int32} {s2 : Nat} : am_run 267 298 [some (.ref l0), some (.ref l1), some (.ref l2), some (.ref l3), some (.int l4), none, none, none] [.int s0, .int s1, .ref s2] w = am_run 267 299 [some (.ref l0), some (.ref l1), some (.ref l2), some (.ref l3), some (.int l4), none, none, none] [.int (nI 0), .int s0, .int s1, .ref s2] w := by
  refine (bu (ls'' := [some (.ref l0), some (.ref l1), some (.ref l2), some (.ref l3), some (.int l4), none, none, none]) (st' := [.int (nI 0), .int s0, .int s1, .ref s2]) bf267_298 bf267_299 rfl rfl).trans ?_
  rfl
theorem bk267_294 {w : am_Wd} {l0 : Nat} {l1 : Nat} {l2 : Nat} {l3 : Nat} {l4 : Int32} {s0 : Int32} {s1 : Int32} {s2 : Nat} : am_run 267 294 [some (.ref l0), some (.ref l1), some (.ref l2), some (.ref l3), some (.int l4), none, none, none] [.int s0, .int s1, .ref s2] w = am_run 267 299 [some (.ref l0), some (.ref l1), some (.ref l2), some (.ref l3), some (.int l4), none, none, none] [.int (nI 1), .int s0, .int s1, .ref s2] w := by
  refine (bu (ls'' := [some (.ref l0), some (.ref l1), some (.ref l2), some (.ref l3), some (.int l4), none, none, none]) (st' := [.int (nI 1), .int s0, .int s1, .ref s2]) bf267_294 bf267_295 rfl rfl).trans ?_
  refine (bu (ls'' := [some (.ref l0), some (.ref l1), some (.ref l2), some (.ref l3), some (.int l4), none, none, none]) (st' := [.int (nI 1), .int s0, .int s1, .ref s2]) bf267_295 bf267_299 rfl rfl).trans ?_
  rfl
theorem bk267_381 {w : am_Wd} {l0 : Nat} {l1 : Nat} {l2 : Nat} {l3 : Nat} {l4 : Int32} {s0 : Int32} {s1 : Int32} {s2 : Int32} {s3 : Int32} {s4 : Nat} : am_run 267 381 [some (.ref l0), some (.ref l1), some (.ref l2), some (.ref l3), some (.int l4), none, none, none] [.int s0, .int s1, .int s2, .int s3, .ref s4] w = (am_x 217 [.ref s4, .int s3, .int s2, .int s1, .int s0, .ref l3] w).bind fun r => bct r fun v w' => am_run 267 385 [some (.ref l0), some (.ref l1), some (.ref l2), some (.ref l3), some (.int l4), none, none, none] (v.toList ++ []) w' := by
  refine (bu (ls'' := [some (.ref l0), some (.ref l1), some (.ref l2), some (.ref l3), some (.int l4), none, none, none]) (st' := [.ref l3, .int s0, .int s1, .int s2, .int s3, .ref s4]) bf267_381 bf267_382 rfl rfl).trans ?_
  exact bkS bf267_382 bf267_385 rfl (by decide +kernel) (Nat.le_of_ble_eq_true rfl) rfl (bhd rfl)
theorem bk267_462 {w : am_Wd} {l0 : Nat} {l1 : Nat} {l2 : Nat} {l3 : Nat} {l4 : Int32} {s0 : Int32} {s1 : Nat} : am_run 267 462 [some (.ref l0), some (.ref l1), some (.ref l2), some (.ref l3), some (.int l4), none, none, none] [.int s0, .ref s1] w = (am_ri 0 w l0 (l4 + (nI 2))).bind fun v => am_run 267 468 [some (.ref l0), some (.ref l1), some (.ref l2), some (.ref l3), some (.int l4), none, none, none] (.int v :: [.int s0, .ref s1]) w := by
  refine (bu (ls'' := [some (.ref l0), some (.ref l1), some (.ref l2), some (.ref l3), some (.int l4), none, none, none]) (st' := [.ref l0, .int s0, .ref s1]) bf267_462 bf267_463 rfl rfl).trans ?_
  refine (bu (ls'' := [some (.ref l0), some (.ref l1), some (.ref l2), some (.ref l3), some (.int l4), none, none, none]) (st' := [.int l4, .ref l0, .int s0, .ref s1]) bf267_463 bf267_465 rfl rfl).trans ?_
  refine (bu (ls'' := [some (.ref l0), some (.ref l1), some (.ref l2), some (.ref l3), some (.int l4), none, none, none]) (st' := [.int (nI 2), .int l4, .ref l0, .int s0, .ref s1]) bf267_465 bf267_466 rfl rfl).trans ?_
  refine (bu (ls'' := [some (.ref l0), some (.ref l1), some (.ref l2), some (.ref l3), some (.int l4), none, none, none]) (st' := [.int (l4 + (nI 2)), .ref l0, .int s0, .ref s1]) bf267_466 bf267_467 rfl rfl).trans ?_
  exact bh bf267_467 bf267_468 rfl (fun _ _ => am_ge_rf w) rfl
theorem bk267_518 {w : am_Wd} {l0 : Nat} {l1 : Nat} {l2 : Nat} {l3 : Nat} {l4 : Int32} {s0 : Int32} {s1 : Int32} {s2 : Nat} : am_run 267 518 [some (.ref l0), some (.ref l1), some (.ref l2), some (.ref l3), some (.int l4), none, none, none] [.int s0, .int s1, .ref s2] w = am_run 267 519 [some (.ref l0), some (.ref l1), some (.ref l2), some (.ref l3), some (.int l4), none, none, none] [.int (nI 0), .int s0, .int s1, .ref s2] w := by
  refine (bu (ls'' := [some (.ref l0), some (.ref l1), some (.ref l2), some (.ref l3), some (.int l4), none, none, none]) (st' := [.int (nI 0), .int s0, .int s1, .ref s2]) bf267_518 bf267_519 rfl rfl).trans ?_
  rfl
theorem bk267_514 {w : am_Wd} {l0 : Nat} {l1 : Nat} {l2 : Nat} {l3 : Nat} {l4 : Int32} {s0 : Int32} {s1 : Int32} {s2 : Nat} : am_run 267 514 [some (.ref l0), some (.ref l1), some (.ref l2), some (.ref l3), some (.int l4), none, none, none] [.int s0, .int s1, .ref s2] w = am_run 267 519 [some (.ref l0), some (.ref l1), some (.ref l2), some (.ref l3), some (.int l4), none, none, none] [.int (nI 1), .int s0, .int s1, .ref s2] w := by
  refine (bu (ls'' := [some (.ref l0), some (.ref l1), some (.ref l2), some (.ref l3), some (.int l4), none, none, none]) (st' := [.int (nI 1), .int s0, .int s1, .ref s2]) bf267_514 bf267_515 rfl rfl).trans ?_
  refine (bu (ls'' := [some (.ref l0), some (.ref l1), some (.ref l2), some (.ref l3), some (.int l4), none, none, none]) (st' := [.int (nI 1), .int s0, .int s1, .ref s2]) bf267_515 bf267_519 rfl rfl).trans ?_
  rfl
theorem bk267_602 {w : am_Wd} {l0 : Nat} {l1 : Nat} {l2 : Nat} {l3 : Nat} {l4 : Int32} {s0 : Int32} {s1 : Nat} : am_run 267 602 [some (.ref l0), some (.ref l1), some (.ref l2), some (.ref l3), some (.int l4), none, none, none] [.int s0, .ref s1] w = (am_ri 0 w l0 (l4 + (nI 2))).bind fun v => am_run 267 608 [some (.ref l0), some (.ref l1), some (.ref l2), some (.ref l3), some (.int l4), none, none, none] (.int v :: [.int s0, .ref s1]) w := by
  refine (bu (ls'' := [some (.ref l0), some (.ref l1), some (.ref l2), some (.ref l3), some (.int l4), none, none, none]) (st' := [.ref l0, .int s0, .ref s1]) bf267_602 bf267_603 rfl rfl).trans ?_
  refine (bu (ls'' := [some (.ref l0), some (.ref l1), some (.ref l2), some (.ref l3), some (.int l4), none, none, none]) (st' := [.int l4, .ref l0, .int s0, .ref s1]) bf267_603 bf267_605 rfl rfl).trans ?_
  refine (bu (ls'' := [some (.ref l0), some (.ref l1), some (.ref l2), some (.ref l3), some (.int l4), none, none, none]) (st' := [.int (nI 2), .int l4, .ref l0, .int s0, .ref s1]) bf267_605 bf267_606 rfl rfl).trans ?_
  refine (bu (ls'' := [some (.ref l0), some (.ref l1), some (.ref l2), some (.ref l3), some (.int l4), none, none, none]) (st' := [.int (l4 + (nI 2)), .ref l0, .int s0, .ref s1]) bf267_606 bf267_607 rfl rfl).trans ?_
  exact bh bf267_607 bf267_608 rfl (fun _ _ => am_ge_rf w) rfl
theorem bk267_658 {w : am_Wd} {l0 : Nat} {l1 : Nat} {l2 : Nat} {l3 : Nat} {l4 : Int32} {s0 : Int32} {s1 : Nat} : am_run 267 658 [some (.ref l0), some (.ref l1), some (.ref l2), some (.ref l3), some (.int l4), none, none, none] [.int s0, .ref s1] w = (am_ri 0 w l0 (l4 + (nI 2))).bind fun v => am_run 267 664 [some (.ref l0), some (.ref l1), some (.ref l2), some (.ref l3), some (.int l4), none, none, none] (.int v :: [.int s0, .ref s1]) w := by
  refine (bu (ls'' := [some (.ref l0), some (.ref l1), some (.ref l2), some (.ref l3), some (.int l4), none, none, none]) (st' := [.ref l0, .int s0, .ref s1]) bf267_658 bf267_659 rfl rfl).trans ?_
  refine (bu (ls'' := [some (.ref l0), some (.ref l1), some (.ref l2), some (.ref l3), some (.int l4), none, none, none]) (st' := [.int l4, .ref l0, .int s0, .ref s1]) bf267_659 bf267_661 rfl rfl).trans ?_
  refine (bu (ls'' := [some (.ref l0), some (.ref l1), some (.ref l2), some (.ref l3), some (.int l4), none, none, none]) (st' := [.int (nI 2), .int l4, .ref l0, .int s0, .ref s1]) bf267_661 bf267_662 rfl rfl).trans ?_
  refine (bu (ls'' := [some (.ref l0), some (.ref l1), some (.ref l2), some (.ref l3), some (.int l4), none, none, none]) (st' := [.int (l4 + (nI 2)), .ref l0, .int s0, .ref s1]) bf267_662 bf267_663 rfl rfl).trans ?_
  exact bh bf267_663 bf267_664 rfl (fun _ _ => am_ge_rf w) rfl
theorem bk267_715 {w : am_Wd} {l0 : Nat} {l1 : Nat} {l2 : Nat} {l3 : Nat} {l4 : Int32} {s0 : Int32} : am_run 267 715 [some (.ref l0), some (.ref l1), some (.ref l2), some (.ref l3), some (.int l4), none, none, none] [.int s0] w = am_run 267 1432 [some (.ref l0), some (.ref l1), some (.ref l2), some (.ref l3), some (.int l4), none, none, none] [] w := by
  refine (bu (ls'' := [some (.ref l0), some (.ref l1), some (.ref l2), some (.ref l3), some (.int l4), none, none, none]) (st' := []) bf267_715 bf267_717 rfl rfl).trans ?_
  refine (bu (ls'' := [some (.ref l0), some (.ref l1), some (.ref l2), some (.ref l3), some (.int l4), none, none, none]) (st' := []) bf267_717 bf267_1432 rfl rfl).trans ?_
  rfl
theorem bk267_783 {w : am_Wd} {l0 : Nat} {l1 : Nat} {l2 : Nat} {l3 : Nat} {l4 : Int32} {s0 : Int32} : am_run 267 783 [some (.ref l0), some (.ref l1), some (.ref l2), some (.ref l3), some (.int l4), none, none, none] [.int s0] w = am_run 267 1432 [some (.ref l0), some (.ref l1), some (.ref l2), some (.ref l3), some (.int l4), none, none, none] [] w := by
  refine (bu (ls'' := [some (.ref l0), some (.ref l1), some (.ref l2), some (.ref l3), some (.int l4), none, none, none]) (st' := []) bf267_783 bf267_785 rfl rfl).trans ?_
  refine (bu (ls'' := [some (.ref l0), some (.ref l1), some (.ref l2), some (.ref l3), some (.int l4), none, none, none]) (st' := []) bf267_785 bf267_1432 rfl rfl).trans ?_
  rfl
theorem bk267_867 {w : am_Wd} {l0 : Nat} {l1 : Nat} {l2 : Nat} {l3 : Nat} {l4 : Int32} {s0 : Int32} {s1 : Int32} {s2 : Nat} : am_run 267 867 [some (.ref l0), some (.ref l1), some (.ref l2), some (.ref l3), some (.int l4), none, none, none] [.int s0, .int s1, .ref s2] w = (am_ri 0 w l0 (l4 + (nI 3))).bind fun v => am_run 267 873 [some (.ref l0), some (.ref l1), some (.ref l2), some (.ref l3), some (.int l4), none, none, none] (.int v :: [.int s0, .int s1, .ref s2]) w := by
  refine (bu (ls'' := [some (.ref l0), some (.ref l1), some (.ref l2), some (.ref l3), some (.int l4), none, none, none]) (st' := [.ref l0, .int s0, .int s1, .ref s2]) bf267_867 bf267_868 rfl rfl).trans ?_
  refine (bu (ls'' := [some (.ref l0), some (.ref l1), some (.ref l2), some (.ref l3), some (.int l4), none, none, none]) (st' := [.int l4, .ref l0, .int s0, .int s1, .ref s2]) bf267_868 bf267_870 rfl rfl).trans ?_
  refine (bu (ls'' := [some (.ref l0), some (.ref l1), some (.ref l2), some (.ref l3), some (.int l4), none, none, none]) (st' := [.int (nI 3), .int l4, .ref l0, .int s0, .int s1, .ref s2]) bf267_870 bf267_871 rfl rfl).trans ?_
  refine (bu (ls'' := [some (.ref l0), some (.ref l1), some (.ref l2), some (.ref l3), some (.int l4), none, none, none]) (st' := [.int (l4 + (nI 3)), .ref l0, .int s0, .int s1, .ref s2]) bf267_871 bf267_872 rfl rfl).trans ?_
  exact bh bf267_872 bf267_873 rfl (fun _ _ => am_ge_rf w) rfl
theorem bk267_916 {w : am_Wd} {l0 : Nat} {l1 : Nat} {l2 : Nat} {l3 : Nat} {l4 : Int32} {s0 : Int32} : am_run 267 916 [some (.ref l0), some (.ref l1), some (.ref l2), some (.ref l3), some (.int l4), none, none, none] [.int s0] w = am_run 267 1432 [some (.ref l0), some (.ref l1), some (.ref l2), some (.ref l3), some (.int l4), none, none, none] [] w := by
  refine (bu (ls'' := [some (.ref l0), some (.ref l1), some (.ref l2), some (.ref l3), some (.int l4), none, none, none]) (st' := []) bf267_916 bf267_918 rfl rfl).trans ?_
  refine (bu (ls'' := [some (.ref l0), some (.ref l1), some (.ref l2), some (.ref l3), some (.int l4), none, none, none]) (st' := []) bf267_918 bf267_1432 rfl rfl).trans ?_
  rfl
theorem bk267_1015 {w : am_Wd} {l0 : Nat} {l1 : Nat} {l2 : Nat} {l3 : Nat} {l4 : Int32} {s0 : Int32} {s1 : Int32} {s2 : Nat} : am_run 267 1015 [some (.ref l0), some (.ref l1), some (.ref l2), some (.ref l3), some (.int l4), none, none, none] [.int s0, .int s1, .ref s2] w = (am_ri 0 w l0 (l4 + (nI 3))).bind fun v => am_run 267 1021 [some (.ref l0), some (.ref l1), some (.ref l2), some (.ref l3), some (.int l4), none, none, none] (.int v :: [.int s0, .int s1, .ref s2]) w := by
  refine (bu (ls'' := [some (.ref l0), some (.ref l1), some (.ref l2), some (.ref l3), some (.int l4), none, none, none]) (st' := [.ref l0, .int s0, .int s1, .ref s2]) bf267_1015 bf267_1016 rfl rfl).trans ?_
  refine (bu (ls'' := [some (.ref l0), some (.ref l1), some (.ref l2), some (.ref l3), some (.int l4), none, none, none]) (st' := [.int l4, .ref l0, .int s0, .int s1, .ref s2]) bf267_1016 bf267_1018 rfl rfl).trans ?_
  refine (bu (ls'' := [some (.ref l0), some (.ref l1), some (.ref l2), some (.ref l3), some (.int l4), none, none, none]) (st' := [.int (nI 3), .int l4, .ref l0, .int s0, .int s1, .ref s2]) bf267_1018 bf267_1019 rfl rfl).trans ?_
  refine (bu (ls'' := [some (.ref l0), some (.ref l1), some (.ref l2), some (.ref l3), some (.int l4), none, none, none]) (st' := [.int (l4 + (nI 3)), .ref l0, .int s0, .int s1, .ref s2]) bf267_1019 bf267_1020 rfl rfl).trans ?_
  exact bh bf267_1020 bf267_1021 rfl (fun _ _ => am_ge_rf w) rfl
theorem bk267_1064 {w : am_Wd} {l0 : Nat} {l1 : Nat} {l2 : Nat} {l3 : Nat} {l4 : Int32} {s0 : Int32} : am_run 267 1064 [some (.ref l0), some (.ref l1), some (.ref l2), some (.ref l3), some (.int l4), none, none, none] [.int s0] w = am_run 267 1432 [some (.ref l0), some (.ref l1), some (.ref l2), some (.ref l3), some (.int l4), none, none, none] [] w := by
  refine (bu (ls'' := [some (.ref l0), some (.ref l1), some (.ref l2), some (.ref l3), some (.int l4), none, none, none]) (st' := []) bf267_1064 bf267_1066 rfl rfl).trans ?_
  refine (bu (ls'' := [some (.ref l0), some (.ref l1), some (.ref l2), some (.ref l3), some (.int l4), none, none, none]) (st' := []) bf267_1066 bf267_1432 rfl rfl).trans ?_
  rfl
theorem bk267_1104 {w : am_Wd} {l0 : Nat} {l1 : Nat} {l2 : Nat} {l3 : Nat} {l4 : Int32} {s0 : Int64} : am_run 267 1104 [some (.ref l0), some (.ref l1), some (.ref l2), some (.ref l3), some (.int l4), none, none, none] [.long s0] w = am_run 267 1432 [some (.ref l0), some (.ref l1), some (.ref l2), some (.ref l3), some (.int l4), none, none, none] [] w := by
  refine (bu (ls'' := [some (.ref l0), some (.ref l1), some (.ref l2), some (.ref l3), some (.int l4), none, none, none]) (st' := []) bf267_1104 bf267_1106 rfl rfl).trans ?_
  refine (bu (ls'' := [some (.ref l0), some (.ref l1), some (.ref l2), some (.ref l3), some (.int l4), none, none, none]) (st' := []) bf267_1106 bf267_1432 rfl rfl).trans ?_
  rfl
theorem bk267_1147 {w : am_Wd} {l0 : Nat} {l1 : Nat} {l2 : Nat} {l3 : Nat} {l4 : Int32} {s0 : Int32} {s1 : Int32} {s2 : Nat} : am_run 267 1147 [some (.ref l0), some (.ref l1), some (.ref l2), some (.ref l3), some (.int l4), none, none, none] [.int s0, .int s1, .ref s2] w = (am_ri 0 w l0 (l4 + (nI 3))).bind fun v => am_run 267 1153 [some (.ref l0), some (.ref l1), some (.ref l2), some (.ref l3), some (.int l4), none, none, none] (.int v :: [.int s0, .int s1, .ref s2]) w := by
  refine (bu (ls'' := [some (.ref l0), some (.ref l1), some (.ref l2), some (.ref l3), some (.int l4), none, none, none]) (st' := [.ref l0, .int s0, .int s1, .ref s2]) bf267_1147 bf267_1148 rfl rfl).trans ?_
  refine (bu (ls'' := [some (.ref l0), some (.ref l1), some (.ref l2), some (.ref l3), some (.int l4), none, none, none]) (st' := [.int l4, .ref l0, .int s0, .int s1, .ref s2]) bf267_1148 bf267_1150 rfl rfl).trans ?_
  refine (bu (ls'' := [some (.ref l0), some (.ref l1), some (.ref l2), some (.ref l3), some (.int l4), none, none, none]) (st' := [.int (nI 3), .int l4, .ref l0, .int s0, .int s1, .ref s2]) bf267_1150 bf267_1151 rfl rfl).trans ?_
  refine (bu (ls'' := [some (.ref l0), some (.ref l1), some (.ref l2), some (.ref l3), some (.int l4), none, none, none]) (st' := [.int (l4 + (nI 3)), .ref l0, .int s0, .int s1, .ref s2]) bf267_1151 bf267_1152 rfl rfl).trans ?_
  exact bh bf267_1152 bf267_1153 rfl (fun _ _ => am_ge_rf w) rfl
theorem bk267_1196 {w : am_Wd} {l0 : Nat} {l1 : Nat} {l2 : Nat} {l3 : Nat} {l4 : Int32} {s0 : Int32} : am_run 267 1196 [some (.ref l0), some (.ref l1), some (.ref l2), some (.ref l3), some (.int l4), none, none, none] [.int s0] w = am_run 267 1432 [some (.ref l0), some (.ref l1), some (.ref l2), some (.ref l3), some (.int l4), none, none, none] [] w := by
  refine (bu (ls'' := [some (.ref l0), some (.ref l1), some (.ref l2), some (.ref l3), some (.int l4), none, none, none]) (st' := []) bf267_1196 bf267_1198 rfl rfl).trans ?_
  refine (bu (ls'' := [some (.ref l0), some (.ref l1), some (.ref l2), some (.ref l3), some (.int l4), none, none, none]) (st' := []) bf267_1198 bf267_1432 rfl rfl).trans ?_
  rfl
theorem bk267_1264 {w : am_Wd} {l0 : Nat} {l1 : Nat} {l2 : Nat} {l3 : Nat} {l4 : Int32} {s0 : Int32} : am_run 267 1264 [some (.ref l0), some (.ref l1), some (.ref l2), some (.ref l3), some (.int l4), none, none, none] [.int s0] w = am_run 267 1432 [some (.ref l0), some (.ref l1), some (.ref l2), some (.ref l3), some (.int l4), none, none, none] [] w := by
  refine (bu (ls'' := [some (.ref l0), some (.ref l1), some (.ref l2), some (.ref l3), some (.int l4), none, none, none]) (st' := []) bf267_1264 bf267_1266 rfl rfl).trans ?_
  refine (bu (ls'' := [some (.ref l0), some (.ref l1), some (.ref l2), some (.ref l3), some (.int l4), none, none, none]) (st' := []) bf267_1266 bf267_1432 rfl rfl).trans ?_
  rfl
theorem bk267_1332 {w : am_Wd} {l0 : Nat} {l1 : Nat} {l2 : Nat} {l3 : Nat} {l4 : Int32} {s0 : Int32} : am_run 267 1332 [some (.ref l0), some (.ref l1), some (.ref l2), some (.ref l3), some (.int l4), none, none, none] [.int s0] w = am_run 267 1432 [some (.ref l0), some (.ref l1), some (.ref l2), some (.ref l3), some (.int l4), none, none, none] [] w := by
  refine (bu (ls'' := [some (.ref l0), some (.ref l1), some (.ref l2), some (.ref l3), some (.int l4), none, none, none]) (st' := []) bf267_1332 bf267_1334 rfl rfl).trans ?_
  refine (bu (ls'' := [some (.ref l0), some (.ref l1), some (.ref l2), some (.ref l3), some (.int l4), none, none, none]) (st' := []) bf267_1334 bf267_1432 rfl rfl).trans ?_
  rfl
theorem bk267_1372 {w : am_Wd} {l0 : Nat} {l1 : Nat} {l2 : Nat} {l3 : Nat} {l4 : Int32} {l5 : Int32} {s0 : Int32} : am_run 267 1372 [some (.ref l0), some (.ref l1), some (.ref l2), some (.ref l3), some (.int l4), some (.int l5), none, none] [.int s0] w = (am_kf w l2 11).bind fun _ => (am_x 266 [.ref l2] w).bind fun r => bct r fun v w' => am_run 267 1378 [some (.ref l0), some (.ref l1), some (.ref l2), some (.ref l3), some (.int l4), some (.int l5), some (.int s0), none] (v.toList ++ []) w' := by
  refine (bu (ls'' := [some (.ref l0), some (.ref l1), some (.ref l2), some (.ref l3), some (.int l4), some (.int l5), some (.int s0), none]) (st' := []) bf267_1372 bf267_1374 rfl rfl).trans ?_
  refine (bu (ls'' := [some (.ref l0), some (.ref l1), some (.ref l2), some (.ref l3), some (.int l4), some (.int l5), some (.int s0), none]) (st' := [.ref l2]) bf267_1374 bf267_1375 rfl rfl).trans ?_
  exact bkV bf267_1375 bf267_1378 rfl (by decide +kernel) (Nat.le_of_ble_eq_true rfl) rfl (bhd rfl)
theorem bk267_216 {w : am_Wd} {l0 : Nat} {l1 : Nat} {l2 : Nat} {l3 : Nat} {l4 : Int32} {s0 : Int32} {s1 : Int32} {s2 : Nat} : am_run 267 216 [some (.ref l0), some (.ref l1), some (.ref l2), some (.ref l3), some (.int l4), none, none, none] [.int s0, .int s1, .ref s2] w = (am_ri 0 w l0 (l4 + (nI 3))).bind fun v => am_run 267 222 [some (.ref l0), some (.ref l1), some (.ref l2), some (.ref l3), some (.int l4), none, none, none] (.int v :: [.int s0, .int s1, .ref s2]) w := by
  refine (bu (ls'' := [some (.ref l0), some (.ref l1), some (.ref l2), some (.ref l3), some (.int l4), none, none, none]) (st' := [.ref l0, .int s0, .int s1, .ref s2]) bf267_216 bf267_217 rfl rfl).trans ?_
  refine (bu (ls'' := [some (.ref l0), some (.ref l1), some (.ref l2), some (.ref l3), some (.int l4), none, none, none]) (st' := [.int l4, .ref l0, .int s0, .int s1, .ref s2]) bf267_217 bf267_219 rfl rfl).trans ?_
  refine (bu (ls'' := [some (.ref l0), some (.ref l1), some (.ref l2), some (.ref l3), some (.int l4), none, none, none]) (st' := [.int (nI 3), .int l4, .ref l0, .int s0, .int s1, .ref s2]) bf267_219 bf267_220 rfl rfl).trans ?_
  refine (bu (ls'' := [some (.ref l0), some (.ref l1), some (.ref l2), some (.ref l3), some (.int l4), none, none, none]) (st' := [.int (l4 + (nI 3)), .ref l0, .int s0, .int s1, .ref s2]) bf267_220 bf267_221 rfl rfl).trans ?_
  exact bh bf267_221 bf267_222 rfl (fun _ _ => am_ge_rf w) rfl
theorem bk267_299 {w : am_Wd} {l0 : Nat} {l1 : Nat} {l2 : Nat} {l3 : Nat} {l4 : Int32} {s0 : Int32} {s1 : Int32} {s2 : Int32} {s3 : Nat} : am_run 267 299 [some (.ref l0), some (.ref l1), some (.ref l2), some (.ref l3), some (.int l4), none, none, none] [.int s0, .int s1, .int s2, .ref s3] w = (am_x 147 [.ref s3, .int s2, .int s1, .int s0, .ref l3] w).bind fun r => bct r fun v w' => am_run 267 303 [some (.ref l0), some (.ref l1), some (.ref l2), some (.ref l3), some (.int l4), none, none, none] (v.toList ++ []) w' := by
  refine (bu (ls'' := [some (.ref l0), some (.ref l1), some (.ref l2), some (.ref l3), some (.int l4), none, none, none]) (st' := [.ref l3, .int s0, .int s1, .int s2, .ref s3]) bf267_299 bf267_300 rfl rfl).trans ?_
  exact bkS bf267_300 bf267_303 rfl (by decide +kernel) (Nat.le_of_ble_eq_true rfl) rfl (bhd rfl)
theorem bk267_385 {w : am_Wd} {l0 : Nat} {l1 : Nat} {l2 : Nat} {l3 : Nat} {l4 : Int32} {s0 : Int32} : am_run 267 385 [some (.ref l0), some (.ref l1), some (.ref l2), some (.ref l3), some (.int l4), none, none, none] [.int s0] w = (am_ri 0 w l0 (l4 + (nI 1))).bind fun v => am_run 267 394 [some (.ref l0), some (.ref l1), some (.ref l2), some (.ref l3), some (.int l4), none, none, none] (.int v :: [.ref l2]) w := by
  refine (bu (ls'' := [some (.ref l0), some (.ref l1), some (.ref l2), some (.ref l3), some (.int l4), none, none, none]) (st' := []) bf267_385 bf267_387 rfl rfl).trans ?_
  refine (bu (ls'' := [some (.ref l0), some (.ref l1), some (.ref l2), some (.ref l3), some (.int l4), none, none, none]) (st' := [.ref l2]) bf267_387 bf267_388 rfl rfl).trans ?_
  refine (bu (ls'' := [some (.ref l0), some (.ref l1), some (.ref l2), some (.ref l3), some (.int l4), none, none, none]) (st' := [.ref l0, .ref l2]) bf267_388 bf267_389 rfl rfl).trans ?_
  refine (bu (ls'' := [some (.ref l0), some (.ref l1), some (.ref l2), some (.ref l3), some (.int l4), none, none, none]) (st' := [.int l4, .ref l0, .ref l2]) bf267_389 bf267_391 rfl rfl).trans ?_
  refine (bu (ls'' := [some (.ref l0), some (.ref l1), some (.ref l2), some (.ref l3), some (.int l4), none, none, none]) (st' := [.int (nI 1), .int l4, .ref l0, .ref l2]) bf267_391 bf267_392 rfl rfl).trans ?_
  refine (bu (ls'' := [some (.ref l0), some (.ref l1), some (.ref l2), some (.ref l3), some (.int l4), none, none, none]) (st' := [.int (l4 + (nI 1)), .ref l0, .ref l2]) bf267_392 bf267_393 rfl rfl).trans ?_
  exact bh bf267_393 bf267_394 rfl (fun _ _ => am_ge_rf w) rfl
theorem bk267_468 {w : am_Wd} {l0 : Nat} {l1 : Nat} {l2 : Nat} {l3 : Nat} {l4 : Int32} {s0 : Int32} {s1 : Int32} {s2 : Nat} : am_run 267 468 [some (.ref l0), some (.ref l1), some (.ref l2), some (.ref l3), some (.int l4), none, none, none] [.int s0, .int s1, .ref s2] w = if s0 = nI 0 then am_run 267 475 [some (.ref l0), some (.ref l1), some (.ref l2), some (.ref l3), some (.int l4), none, none, none] [.int s1, .ref s2] w else am_run 267 471 [some (.ref l0), some (.ref l1), some (.ref l2), some (.ref l3), some (.int l4), none, none, none] [.int s1, .ref s2] w := by
  exact bifc bf267_468 rfl bf267_475 bf267_471 rfl rfl rfl
theorem bk267_519 {w : am_Wd} {l0 : Nat} {l1 : Nat} {l2 : Nat} {l3 : Nat} {l4 : Int32} {s0 : Int32} {s1 : Int32} {s2 : Int32} {s3 : Nat} : am_run 267 519 [some (.ref l0), some (.ref l1), some (.ref l2), some (.ref l3), some (.int l4), none, none, none] [.int s0, .int s1, .int s2, .ref s3] w = (am_x 254 [.ref s3, .int s2, .int s1, .int s0, .ref l3] w).bind fun r => bct r fun v w' => am_run 267 523 [some (.ref l0), some (.ref l1), some (.ref l2), some (.ref l3), some (.int l4), none, none, none] (v.toList ++ []) w' := by
  refine (bu (ls'' := [some (.ref l0), some (.ref l1), some (.ref l2), some (.ref l3), some (.int l4), none, none, none]) (st' := [.ref l3, .int s0, .int s1, .int s2, .ref s3]) bf267_519 bf267_520 rfl rfl).trans ?_
  exact bkS bf267_520 bf267_523 rfl (by decide +kernel) (Nat.le_of_ble_eq_true rfl) rfl (bhd rfl)
theorem bk267_608 {w : am_Wd} {l0 : Nat} {l1 : Nat} {l2 : Nat} {l3 : Nat} {l4 : Int32} {s0 : Int32} {s1 : Int32} {s2 : Nat} : am_run 267 608 [some (.ref l0), some (.ref l1), some (.ref l2), some (.ref l3), some (.int l4), none, none, none] [.int s0, .int s1, .ref s2] w = if s0 = nI 0 then am_run 267 615 [some (.ref l0), some (.ref l1), some (.ref l2), some (.ref l3), some (.int l4), none, none, none] [.int s1, .ref s2] w else am_run 267 611 [some (.ref l0), some (.ref l1), some (.ref l2), some (.ref l3), some (.int l4), none, none, none] [.int s1, .ref s2] w := by
  exact bifc bf267_608 rfl bf267_615 bf267_611 rfl rfl rfl
theorem bk267_664 {w : am_Wd} {l0 : Nat} {l1 : Nat} {l2 : Nat} {l3 : Nat} {l4 : Int32} {s0 : Int32} {s1 : Int32} {s2 : Nat} : am_run 267 664 [some (.ref l0), some (.ref l1), some (.ref l2), some (.ref l3), some (.int l4), none, none, none] [.int s0, .int s1, .ref s2] w = if s0 = nI 0 then am_run 267 671 [some (.ref l0), some (.ref l1), some (.ref l2), some (.ref l3), some (.int l4), none, none, none] [.int s1, .ref s2] w else am_run 267 667 [some (.ref l0), some (.ref l1), some (.ref l2), some (.ref l3), some (.int l4), none, none, none] [.int s1, .ref s2] w := by
  exact bifc bf267_664 rfl bf267_671 bf267_667 rfl rfl rfl
theorem bk267_873 {w : am_Wd} {l0 : Nat} {l1 : Nat} {l2 : Nat} {l3 : Nat} {l4 : Int32} {s0 : Int32} {s1 : Int32} {s2 : Int32} {s3 : Nat} : am_run 267 873 [some (.ref l0), some (.ref l1), some (.ref l2), some (.ref l3), some (.int l4), none, none, none] [.int s0, .int s1, .int s2, .ref s3] w = (am_kf w s3 11).bind fun _ => (am_x 212 [.ref s3, .int s2, .int s1, .int s0] w).bind fun r => bct r fun v w' => am_run 267 876 [some (.ref l0), some (.ref l1), some (.ref l2), some (.ref l3), some (.int l4), none, none, none] (v.toList ++ []) w' := by
  exact bkV bf267_873 bf267_876 rfl (by decide +kernel) (Nat.le_of_ble_eq_true rfl) rfl (bhd rfl)
theorem bk267_1021 {w : am_Wd} {l0 : Nat} {l1 : Nat} {l2 : Nat} {l3 : Nat} {l4 : Int32} {s0 : Int32} {s1 : Int32} {s2 : Int32} {s3 : Nat} : am_run 267 1021 [some (.ref l0), some (.ref l1), some (.ref l2), some (.ref l3), some (.int l4), none, none, none] [.int s0, .int s1, .int s2, .ref s3] w = (am_kf w s3 11).bind fun _ => (am_x 214 [.ref s3, .int s2, .int s1, .int s0] w).bind fun r => bct r fun v w' => am_run 267 1024 [some (.ref l0), some (.ref l1), some (.ref l2), some (.ref l3), some (.int l4), none, none, none] (v.toList ++ []) w' := by
  exact bkV bf267_1021 bf267_1024 rfl (by decide +kernel) (Nat.le_of_ble_eq_true rfl) rfl (bhd rfl)
theorem bk267_1153 {w : am_Wd} {l0 : Nat} {l1 : Nat} {l2 : Nat} {l3 : Nat} {l4 : Int32} {s0 : Int32} {s1 : Int32} {s2 : Int32} {s3 : Nat} : am_run 267 1153 [some (.ref l0), some (.ref l1), some (.ref l2), some (.ref l3), some (.int l4), none, none, none] [.int s0, .int s1, .int s2, .ref s3] w = (am_kf w s3 11).bind fun _ => (am_x 228 [.ref s3, .int s2, .int s1, .int s0] w).bind fun r => bct r fun v w' => am_run 267 1156 [some (.ref l0), some (.ref l1), some (.ref l2), some (.ref l3), some (.int l4), none, none, none] (v.toList ++ []) w' := by
  exact bkV bf267_1153 bf267_1156 rfl (by decide +kernel) (Nat.le_of_ble_eq_true rfl) rfl (bhd rfl)
theorem bk267_1378 {w : am_Wd} {l0 : Nat} {l1 : Nat} {l2 : Nat} {l3 : Nat} {l4 : Int32} {l5 : Int32} {l6 : Int32} {s0 : Int32} : am_run 267 1378 [some (.ref l0), some (.ref l1), some (.ref l2), some (.ref l3), some (.int l4), some (.int l5), some (.int l6), none] [.int s0] w = if s0 = l5 then am_run 267 1385 [some (.ref l0), some (.ref l1), some (.ref l2), some (.ref l3), some (.int l4), some (.int l5), some (.int l6), none] [] w else am_run 267 1383 [none, none, none, none, none, none, none, none] [] w := by
  refine (bu (ls'' := [some (.ref l0), some (.ref l1), some (.ref l2), some (.ref l3), some (.int l4), some (.int l5), some (.int l6), none]) (st' := [.int l5, .int s0]) bf267_1378 bf267_1380 rfl rfl).trans ?_
  exact bic bf267_1380 rfl bf267_1385 bf267_1383 rfl rfl rfl
theorem bk267_222 {w : am_Wd} {l0 : Nat} {l1 : Nat} {l2 : Nat} {l3 : Nat} {l4 : Int32} {s0 : Int32} {s1 : Int32} {s2 : Int32} {s3 : Nat} : am_run 267 222 [some (.ref l0), some (.ref l1), some (.ref l2), some (.ref l3), some (.int l4), none, none, none] [.int s0, .int s1, .int s2, .ref s3] w = (am_ri 0 w l0 (l4 + (nI 4))).bind fun v => am_run 267 228 [some (.ref l0), some (.ref l1), some (.ref l2), some (.ref l3), some (.int l4), none, none, none] (.int v :: [.int s0, .int s1, .int s2, .ref s3]) w := by
  refine (bu (ls'' := [some (.ref l0), some (.ref l1), some (.ref l2), some (.ref l3), some (.int l4), none, none, none]) (st' := [.ref l0, .int s0, .int s1, .int s2, .ref s3]) bf267_222 bf267_223 rfl rfl).trans ?_
  refine (bu (ls'' := [some (.ref l0), some (.ref l1), some (.ref l2), some (.ref l3), some (.int l4), none, none, none]) (st' := [.int l4, .ref l0, .int s0, .int s1, .int s2, .ref s3]) bf267_223 bf267_225 rfl rfl).trans ?_
  refine (bu (ls'' := [some (.ref l0), some (.ref l1), some (.ref l2), some (.ref l3), some (.int l4), none, none, none]) (st' := [.int (nI 4), .int l4, .ref l0, .int s0, .int s1, .int s2, .ref s3]) bf267_225 bf267_226 rfl rfl).trans ?_
  refine (bu (ls'' := [some (.ref l0), some (.ref l1), some (.ref l2), some (.ref l3), some (.int l4), none, none, none]) (st' := [.int (l4 + (nI 4)), .ref l0, .int s0, .int s1, .int s2, .ref s3]) bf267_226 bf267_227 rfl rfl).trans ?_
  exact bh bf267_227 bf267_228 rfl (fun _ _ => am_ge_rf w) rfl
theorem bk267_303 {w : am_Wd} {l0 : Nat} {l1 : Nat} {l2 : Nat} {l3 : Nat} {l4 : Int32} {s0 : Int32} : am_run 267 303 [some (.ref l0), some (.ref l1), some (.ref l2), some (.ref l3), some (.int l4), none, none, none] [.int s0] w = (am_ri 0 w l0 (l4 + (nI 1))).bind fun v => am_run 267 312 [some (.ref l0), some (.ref l1), some (.ref l2), some (.ref l3), some (.int l4), none, none, none] (.int v :: [.ref l2]) w := by
  refine (bu (ls'' := [some (.ref l0), some (.ref l1), some (.ref l2), some (.ref l3), some (.int l4), none, none, none]) (st' := []) bf267_303 bf267_305 rfl rfl).trans ?_
  refine (bu (ls'' := [some (.ref l0), some (.ref l1), some (.ref l2), some (.ref l3), some (.int l4), none, none, none]) (st' := [.ref l2]) bf267_305 bf267_306 rfl rfl).trans ?_
  refine (bu (ls'' := [some (.ref l0), some (.ref l1), some (.ref l2), some (.ref l3), some (.int l4), none, none, none]) (st' := [.ref l0, .ref l2]) bf267_306 bf267_307 rfl rfl).trans ?_
  refine (bu (ls'' := [some (.ref l0), some (.ref l1), some (.ref l2), some (.ref l3), some (.int l4), none, none, none]) (st' := [.int l4, .ref l0, .ref l2]) bf267_307 bf267_309 rfl rfl).trans ?_
  refine (bu (ls'' := [some (.ref l0), some (.ref l1), some (.ref l2), some (.ref l3), some (.int l4), none, none, none]) (st' := [.int (nI 1), .int l4, .ref l0, .ref l2]) bf267_309 bf267_310 rfl rfl).trans ?_
  refine (bu (ls'' := [some (.ref l0), some (.ref l1), some (.ref l2), some (.ref l3), some (.int l4), none, none, none]) (st' := [.int (l4 + (nI 1)), .ref l0, .ref l2]) bf267_310 bf267_311 rfl rfl).trans ?_
  exact bh bf267_311 bf267_312 rfl (fun _ _ => am_ge_rf w) rfl
theorem bk267_394 {w : am_Wd} {l0 : Nat} {l1 : Nat} {l2 : Nat} {l3 : Nat} {l4 : Int32} {s0 : Int32} {s1 : Nat} : am_run 267 394 [some (.ref l0), some (.ref l1), some (.ref l2), some (.ref l3), some (.int l4), none, none, none] [.int s0, .ref s1] w = (am_ri 0 w l0 (l4 + (nI 2))).bind fun v => am_run 267 400 [some (.ref l0), some (.ref l1), some (.ref l2), some (.ref l3), some (.int l4), none, none, none] (.int v :: [.int s0, .ref s1]) w := by
  refine (bu (ls'' := [some (.ref l0), some (.ref l1), some (.ref l2), some (.ref l3), some (.int l4), none, none, none]) (st' := [.ref l0, .int s0, .ref s1]) bf267_394 bf267_395 rfl rfl).trans ?_
  refine (bu (ls'' := [some (.ref l0), some (.ref l1), some (.ref l2), some (.ref l3), some (.int l4), none, none, none]) (st' := [.int l4, .ref l0, .int s0, .ref s1]) bf267_395 bf267_397 rfl rfl).trans ?_
  refine (bu (ls'' := [some (.ref l0), some (.ref l1), some (.ref l2), some (.ref l3), some (.int l4), none, none, none]) (st' := [.int (nI 2), .int l4, .ref l0, .int s0, .ref s1]) bf267_397 bf267_398 rfl rfl).trans ?_
  refine (bu (ls'' := [some (.ref l0), some (.ref l1), some (.ref l2), some (.ref l3), some (.int l4), none, none, none]) (st' := [.int (l4 + (nI 2)), .ref l0, .int s0, .ref s1]) bf267_398 bf267_399 rfl rfl).trans ?_
  exact bh bf267_399 bf267_400 rfl (fun _ _ => am_ge_rf w) rfl
theorem bk267_475 {w : am_Wd} {l0 : Nat} {l1 : Nat} {l2 : Nat} {l3 : Nat} {l4 : Int32} {s0 : Int32} {s1 : Nat} : am_run 267 475 [some (.ref l0), some (.ref l1), some (.ref l2), some (.ref l3), some (.int l4), none, none, none] [.int s0, .ref s1] w = am_run 267 476 [some (.ref l0), some (.ref l1), some (.ref l2), some (.ref l3), some (.int l4), none, none, none] [.int (nI 0), .int s0, .ref s1] w := by
  refine (bu (ls'' := [some (.ref l0), some (.ref l1), some (.ref l2), some (.ref l3), some (.int l4), none, none, none]) (st' := [.int (nI 0), .int s0, .ref s1]) bf267_475 bf267_476 rfl rfl).trans ?_
  rfl
theorem bk267_471 {w : am_Wd} {l0 : Nat} {l1 : Nat} {l2 : Nat} {l3 : Nat} {l4 : Int32} {s0 : Int32} {s1 : Nat} : am_run 267 471 [some (.ref l0), some (.ref l1), some (.ref l2), some (.ref l3), some (.int l4), none, none, none] [.int s0, .ref s1] w = am_run 267 476 [some (.ref l0), some (.ref l1), some (.ref l2), some (.ref l3), some (.int l4), none, none, none] [.int (nI 1), .int s0, .ref s1] w := by
  refine (bu (ls'' := [some (.ref l0), some (.ref l1), some (.ref l2), some (.ref l3), some (.int l4), none, none, none]) (st' := [.int (nI 1), .int s0, .ref s1]) bf267_471 bf267_472 rfl rfl).trans ?_
  refine (bu (ls'' := [some (.ref l0), some (.ref l1), some (.ref l2), some (.ref l3), some (.int l4), none, none, none]) (st' := [.int (nI 1), .int s0, .ref s1]) bf267_472 bf267_476 rfl rfl).trans ?_
  rfl
theorem bk267_523 {w : am_Wd} {l0 : Nat} {l1 : Nat} {l2 : Nat} {l3 : Nat} {l4 : Int32} {s0 : Int32} : am_run 267 523 [some (.ref l0), some (.ref l1), some (.ref l2), some (.ref l3), some (.int l4), none, none, none] [.int s0] w = (am_ri 0 w l0 (l4 + (nI 1))).bind fun v => am_run 267 532 [some (.ref l0), some (.ref l1), some (.ref l2), some (.ref l3), some (.int l4), none, none, none] (.int v :: [.ref l2]) w := by
  refine (bu (ls'' := [some (.ref l0), some (.ref l1), some (.ref l2), some (.ref l3), some (.int l4), none, none, none]) (st' := []) bf267_523 bf267_525 rfl rfl).trans ?_
  refine (bu (ls'' := [some (.ref l0), some (.ref l1), some (.ref l2), some (.ref l3), some (.int l4), none, none, none]) (st' := [.ref l2]) bf267_525 bf267_526 rfl rfl).trans ?_
  refine (bu (ls'' := [some (.ref l0), some (.ref l1), some (.ref l2), some (.ref l3), some (.int l4), none, none, none]) (st' := [.ref l0, .ref l2]) bf267_526 bf267_527 rfl rfl).trans ?_
  refine (bu (ls'' := [some (.ref l0), some (.ref l1), some (.ref l2), some (.ref l3), some (.int l4), none, none, none]) (st' := [.int l4, .ref l0, .ref l2]) bf267_527 bf267_529 rfl rfl).trans ?_
  refine (bu (ls'' := [some (.ref l0), some (.ref l1), some (.ref l2), some (.ref l3), some (.int l4), none, none, none]) (st' := [.int (nI 1), .int l4, .ref l0, .ref l2]) bf267_529 bf267_530 rfl rfl).trans ?_
  refine (bu (ls'' := [some (.ref l0), some (.ref l1), some (.ref l2), some (.ref l3), some (.int l4), none, none, none]) (st' := [.int (l4 + (nI 1)), .ref l0, .ref l2]) bf267_530 bf267_531 rfl rfl).trans ?_
  exact bh bf267_531 bf267_532 rfl (fun _ _ => am_ge_rf w) rfl
theorem bk267_615 {w : am_Wd} {l0 : Nat} {l1 : Nat} {l2 : Nat} {l3 : Nat} {l4 : Int32} {s0 : Int32} {s1 : Nat} : am_run 267 615 [some (.ref l0), some (.ref l1), some (.ref l2), some (.ref l3), some (.int l4), none, none, none] [.int s0, .ref s1] w = am_run 267 616 [some (.ref l0), some (.ref l1), some (.ref l2), some (.ref l3), some (.int l4), none, none, none] [.int (nI 0), .int s0, .ref s1] w := by
  refine (bu (ls'' := [some (.ref l0), some (.ref l1), some (.ref l2), some (.ref l3), some (.int l4), none, none, none]) (st' := [.int (nI 0), .int s0, .ref s1]) bf267_615 bf267_616 rfl rfl).trans ?_
  rfl
theorem bk267_611 {w : am_Wd} {l0 : Nat} {l1 : Nat} {l2 : Nat} {l3 : Nat} {l4 : Int32} {s0 : Int32} {s1 : Nat} : am_run 267 611 [some (.ref l0), some (.ref l1), some (.ref l2), some (.ref l3), some (.int l4), none, none, none] [.int s0, .ref s1] w = am_run 267 616 [some (.ref l0), some (.ref l1), some (.ref l2), some (.ref l3), some (.int l4), none, none, none] [.int (nI 1), .int s0, .ref s1] w := by
  refine (bu (ls'' := [some (.ref l0), some (.ref l1), some (.ref l2), some (.ref l3), some (.int l4), none, none, none]) (st' := [.int (nI 1), .int s0, .ref s1]) bf267_611 bf267_612 rfl rfl).trans ?_
  refine (bu (ls'' := [some (.ref l0), some (.ref l1), some (.ref l2), some (.ref l3), some (.int l4), none, none, none]) (st' := [.int (nI 1), .int s0, .ref s1]) bf267_612 bf267_616 rfl rfl).trans ?_
  rfl
theorem bk267_671 {w : am_Wd} {l0 : Nat} {l1 : Nat} {l2 : Nat} {l3 : Nat} {l4 : Int32} {s0 : Int32} {s1 : Nat} : am_run 267 671 [some (.ref l0), some (.ref l1), some (.ref l2), some (.ref l3), some (.int l4), none, none, none] [.int s0, .ref s1] w = am_run 267 672 [some (.ref l0), some (.ref l1), some (.ref l2), some (.ref l3), some (.int l4), none, none, none] [.int (nI 0), .int s0, .ref s1] w := by
  refine (bu (ls'' := [some (.ref l0), some (.ref l1), some (.ref l2), some (.ref l3), some (.int l4), none, none, none]) (st' := [.int (nI 0), .int s0, .ref s1]) bf267_671 bf267_672 rfl rfl).trans ?_
  rfl
theorem bk267_667 {w : am_Wd} {l0 : Nat} {l1 : Nat} {l2 : Nat} {l3 : Nat} {l4 : Int32} {s0 : Int32} {s1 : Nat} : am_run 267 667 [some (.ref l0), some (.ref l1), some (.ref l2), some (.ref l3), some (.int l4), none, none, none] [.int s0, .ref s1] w = am_run 267 672 [some (.ref l0), some (.ref l1), some (.ref l2), some (.ref l3), some (.int l4), none, none, none] [.int (nI 1), .int s0, .ref s1] w := by
  refine (bu (ls'' := [some (.ref l0), some (.ref l1), some (.ref l2), some (.ref l3), some (.int l4), none, none, none]) (st' := [.int (nI 1), .int s0, .ref s1]) bf267_667 bf267_668 rfl rfl).trans ?_
  refine (bu (ls'' := [some (.ref l0), some (.ref l1), some (.ref l2), some (.ref l3), some (.int l4), none, none, none]) (st' := [.int (nI 1), .int s0, .ref s1]) bf267_668 bf267_672 rfl rfl).trans ?_
  rfl
theorem bk267_876 {w : am_Wd} {l0 : Nat} {l1 : Nat} {l2 : Nat} {l3 : Nat} {l4 : Int32} {s0 : Int32} : am_run 267 876 [some (.ref l0), some (.ref l1), some (.ref l2), some (.ref l3), some (.int l4), none, none, none] [.int s0] w = am_run 267 1432 [some (.ref l0), some (.ref l1), some (.ref l2), some (.ref l3), some (.int l4), none, none, none] [] w := by
  refine (bu (ls'' := [some (.ref l0), some (.ref l1), some (.ref l2), some (.ref l3), some (.int l4), none, none, none]) (st' := []) bf267_876 bf267_878 rfl rfl).trans ?_
  refine (bu (ls'' := [some (.ref l0), some (.ref l1), some (.ref l2), some (.ref l3), some (.int l4), none, none, none]) (st' := []) bf267_878 bf267_1432 rfl rfl).trans ?_
  rfl
theorem bk267_1024 {w : am_Wd} {l0 : Nat} {l1 : Nat} {l2 : Nat} {l3 : Nat} {l4 : Int32} {s0 : Int32} : am_run 267 1024 [some (.ref l0), some (.ref l1), some (.ref l2), some (.ref l3), some (.int l4), none, none, none] [.int s0] w = am_run 267 1432 [some (.ref l0), some (.ref l1), some (.ref l2), some (.ref l3), some (.int l4), none, none, none] [] w := by
  refine (bu (ls'' := [some (.ref l0), some (.ref l1), some (.ref l2), some (.ref l3), some (.int l4), none, none, none]) (st' := []) bf267_1024 bf267_1026 rfl rfl).trans ?_
  refine (bu (ls'' := [some (.ref l0), some (.ref l1), some (.ref l2), some (.ref l3), some (.int l4), none, none, none]) (st' := []) bf267_1026 bf267_1432 rfl rfl).trans ?_
  rfl
theorem bk267_1156 {w : am_Wd} {l0 : Nat} {l1 : Nat} {l2 : Nat} {l3 : Nat} {l4 : Int32} {s0 : Int32} : am_run 267 1156 [some (.ref l0), some (.ref l1), some (.ref l2), some (.ref l3), some (.int l4), none, none, none] [.int s0] w = am_run 267 1432 [some (.ref l0), some (.ref l1), some (.ref l2), some (.ref l3), some (.int l4), none, none, none] [] w := by
  refine (bu (ls'' := [some (.ref l0), some (.ref l1), some (.ref l2), some (.ref l3), some (.int l4), none, none, none]) (st' := []) bf267_1156 bf267_1158 rfl rfl).trans ?_
  refine (bu (ls'' := [some (.ref l0), some (.ref l1), some (.ref l2), some (.ref l3), some (.int l4), none, none, none]) (st' := []) bf267_1158 bf267_1432 rfl rfl).trans ?_
  rfl
theorem bk267_1385 {w : am_Wd} {l0 : Nat} {l1 : Nat} {l2 : Nat} {l3 : Nat} {l4 : Int32} {l5 : Int32} {l6 : Int32} : am_run 267 1385 [some (.ref l0), some (.ref l1), some (.ref l2), some (.ref l3), some (.int l4), some (.int l5), some (.int l6), none] [] w = if ¬ l5 = nI 0 then am_run 267 1403 [some (.ref l0), some (.ref l1), some (.ref l2), some (.ref l3), some (.int l4), none, none, none] [] w else am_run 267 1390 [some (.ref l0), some (.ref l1), some (.ref l2), some (.ref l3), some (.int l4), none, some (.int l6), none] [] w := by
  refine (bu (ls'' := [some (.ref l0), some (.ref l1), some (.ref l2), some (.ref l3), some (.int l4), none, some (.int l6), none]) (st' := [.int l5]) bf267_1385 bf267_1387 rfl rfl).trans ?_
  exact bifc bf267_1387 rfl bf267_1403 bf267_1390 rfl rfl rfl
theorem bk267_1383 {w : am_Wd}  : am_run 267 1383 [none, none, none, none, none, none, none, none] [] w = some (.inl (some (.int (nI 0))), w) := by
  refine (bu (ls'' := [none, none, none, none, none, none, none, none]) (st' := [.int (nI 0)]) bf267_1383 bf267_1384 rfl rfl).trans ?_
  exact am_e2 bf267_1384 rfl (am_ge_rf w)
theorem bk267_228 {w : am_Wd} {l0 : Nat} {l1 : Nat} {l2 : Nat} {l3 : Nat} {l4 : Int32} {s0 : Int32} {s1 : Int32} {s2 : Int32} {s3 : Int32} {s4 : Nat} : am_run 267 228 [some (.ref l0), some (.ref l1), some (.ref l2), some (.ref l3), some (.int l4), none, none, none] [.int s0, .int s1, .int s2, .int s3, .ref s4] w = (am_kf w s4 11).bind fun _ => (am_x 176 [.ref s4, .int s3, .int s2, .int s1, .int s0] w).bind fun r => bct r fun v w' => am_run 267 231 [some (.ref l0), some (.ref l1), some (.ref l2), some (.ref l3), some (.int l4), none, none, none] (v.toList ++ []) w' := by
  exact bkV bf267_228 bf267_231 rfl (by decide +kernel) (Nat.le_of_ble_eq_true rfl) rfl (bhd rfl)
theorem bk267_312 {w : am_Wd} {l0 : Nat} {l1 : Nat} {l2 : Nat} {l3 : Nat} {l4 : Int32} {s0 : Int32} {s1 : Nat} : am_run 267 312 [some (.ref l0), some (.ref l1), some (.ref l2), some (.ref l3), some (.int l4), none, none, none] [.int s0, .ref s1] w = (am_ri 0 w l0 (l4 + (nI 2))).bind fun v => am_run 267 318 [some (.ref l0), some (.ref l1), some (.ref l2), some (.ref l3), some (.int l4), none, none, none] (.int v :: [.int s0, .ref s1]) w := by
  refine (bu (ls'' := [some (.ref l0), some (.ref l1), some (.ref l2), some (.ref l3), some (.int l4), none, none, none]) (st' := [.ref l0, .int s0, .ref s1]) bf267_312 bf267_313 rfl rfl).trans ?_
  refine (bu (ls'' := [some (.ref l0), some (.ref l1), some (.ref l2), some (.ref l3), some (.int l4), none, none, none]) (st' := [.int l4, .ref l0, .int s0, .ref s1]) bf267_313 bf267_315 rfl rfl).trans ?_
  refine (bu (ls'' := [some (.ref l0), some (.ref l1), some (.ref l2), some (.ref l3), some (.int l4), none, none, none]) (st' := [.int (nI 2), .int l4, .ref l0, .int s0, .ref s1]) bf267_315 bf267_316 rfl rfl).trans ?_
  refine (bu (ls'' := [some (.ref l0), some (.ref l1), some (.ref l2), some (.ref l3), some (.int l4), none, none, none]) (st' := [.int (l4 + (nI 2)), .ref l0, .int s0, .ref s1]) bf267_316 bf267_317 rfl rfl).trans ?_
  exact bh bf267_317 bf267_318 rfl (fun _ _ => am_ge_rf w) rfl
theorem bk267_400 {w : am_Wd} {l0 : Nat} {l1 : Nat} {l2 : Nat} {l3 : Nat} {l4 : Int32} {s0 : Int32} {s1 : Int32} {s2 : Nat} : am_run 267 400 [some (.ref l0), some (.ref l1), some (.ref l2), some (.ref l3), some (.int l4), none, none, none] [.int s0, .int s1, .ref s2] w = (am_ri 0 w l0 (l4 + (nI 3))).bind fun v => am_run 267 406 [some (.ref l0), some (.ref l1), some (.ref l2), some (.ref l3), some (.int l4), none, none, none] (.int v :: [.int s0, .int s1, .ref s2]) w := by
  refine (bu (ls'' := [some (.ref l0), some (.ref l1), some (.ref l2), some (.ref l3), some (.int l4), none, none, none]) (st' := [.ref l0, .int s0, .int s1, .ref s2]) bf267_400 bf267_401 rfl rfl).trans ?_
  refine (bu (ls'' := [some (.ref l0), some (.ref l1), some (.ref l2), some (.ref l3), some (.int l4), none, none, none]) (st' := [.int l4, .ref l0, .int s0, .int s1, .ref s2]) bf267_401 bf267_403 rfl rfl).trans ?_
  refine (bu (ls'' := [some (.ref l0), some (.ref l1), some (.ref l2), some (.ref l3), some (.int l4), none, none, none]) (st' := [.int (nI 3), .int l4, .ref l0, .int s0, .int s1, .ref s2]) bf267_403 bf267_404 rfl rfl).trans ?_
  refine (bu (ls'' := [some (.ref l0), some (.ref l1), some (.ref l2), some (.ref l3), some (.int l4), none, none, none]) (st' := [.int (l4 + (nI 3)), .ref l0, .int s0, .int s1, .ref s2]) bf267_404 bf267_405 rfl rfl).trans ?_
  exact bh bf267_405 bf267_406 rfl (fun _ _ => am_ge_rf w) rfl
theorem bk267_476 {w : am_Wd} {l0 : Nat} {l1 : Nat} {l2 : Nat} {l3 : Nat} {l4 : Int32} {s0 : Int32} {s1 : Int32} {s2 : Nat} : am_run 267 476 [some (.ref l0), some (.ref l1), some (.ref l2), some (.ref l3), some (.int l4), none, none, none] [.int s0, .int s1, .ref s2] w = (am_kf w s2 11).bind fun _ => (am_x 260 [.ref s2, .int s1, .int s0] w).bind fun r => bct r fun v w' => am_run 267 479 [some (.ref l0), some (.ref l1), some (.ref l2), some (.ref l3), some (.int l4), none, none, none] (v.toList ++ []) w' := by
  exact bkV bf267_476 bf267_479 rfl (by decide +kernel) (Nat.le_of_ble_eq_true rfl) rfl (bhd rfl)
theorem bk267_532 {w : am_Wd} {l0 : Nat} {l1 : Nat} {l2 : Nat} {l3 : Nat} {l4 : Int32} {s0 : Int32} {s1 : Nat} : am_run 267 532 [some (.ref l0), some (.ref l1), some (.ref l2), some (.ref l3), some (.int l4), none, none, none] [.int s0, .ref s1] w = (am_ri 0 w l0 (l4 + (nI 2))).bind fun v => am_run 267 538 [some (.ref l0), some (.ref l1), some (.ref l2), some (.ref l3), some (.int l4), none, none, none] (.int v :: [.int s0, .ref s1]) w := by
  refine (bu (ls'' := [some (.ref l0), some (.ref l1), some (.ref l2), some (.ref l3), some (.int l4), none, none, none]) (st' := [.ref l0, .int s0, .ref s1]) bf267_532 bf267_533 rfl rfl).trans ?_
  refine (bu (ls'' := [some (.ref l0), some (.ref l1), some (.ref l2), some (.ref l3), some (.int l4), none, none, none]) (st' := [.int l4, .ref l0, .int s0, .ref s1]) bf267_533 bf267_535 rfl rfl).trans ?_
  refine (bu (ls'' := [some (.ref l0), some (.ref l1), some (.ref l2), some (.ref l3), some (.int l4), none, none, none]) (st' := [.int (nI 2), .int l4, .ref l0, .int s0, .ref s1]) bf267_535 bf267_536 rfl rfl).trans ?_
  refine (bu (ls'' := [some (.ref l0), some (.ref l1), some (.ref l2), some (.ref l3), some (.int l4), none, none, none]) (st' := [.int (l4 + (nI 2)), .ref l0, .int s0, .ref s1]) bf267_536 bf267_537 rfl rfl).trans ?_
  exact bh bf267_537 bf267_538 rfl (fun _ _ => am_ge_rf w) rfl
theorem bk267_616 {w : am_Wd} {l0 : Nat} {l1 : Nat} {l2 : Nat} {l3 : Nat} {l4 : Int32} {s0 : Int32} {s1 : Int32} {s2 : Nat} : am_run 267 616 [some (.ref l0), some (.ref l1), some (.ref l2), some (.ref l3), some (.int l4), none, none, none] [.int s0, .int s1, .ref s2] w = (am_kf w s2 11).bind fun _ => (am_x 262 [.ref s2, .int s1, .int s0] w).bind fun r => bct r fun v w' => am_run 267 619 [some (.ref l0), some (.ref l1), some (.ref l2), some (.ref l3), some (.int l4), none, none, none] (v.toList ++ []) w' := by
  exact bkV bf267_616 bf267_619 rfl (by decide +kernel) (Nat.le_of_ble_eq_true rfl) rfl (bhd rfl)
theorem bk267_672 {w : am_Wd} {l0 : Nat} {l1 : Nat} {l2 : Nat} {l3 : Nat} {l4 : Int32} {s0 : Int32} {s1 : Int32} {s2 : Nat} : am_run 267 672 [some (.ref l0), some (.ref l1), some (.ref l2), some (.ref l3), some (.int l4), none, none, none] [.int s0, .int s1, .ref s2] w = (am_kf w s2 11).bind fun _ => (am_x 263 [.ref s2, .int s1, .int s0] w).bind fun r => bct r fun v w' => am_run 267 675 [some (.ref l0), some (.ref l1), some (.ref l2), some (.ref l3), some (.int l4), none, none, none] (v.toList ++ []) w' := by
  exact bkV bf267_672 bf267_675 rfl (by decide +kernel) (Nat.le_of_ble_eq_true rfl) rfl (bhd rfl)
theorem bk267_1403 {w : am_Wd} {l0 : Nat} {l1 : Nat} {l2 : Nat} {l3 : Nat} {l4 : Int32} : am_run 267 1403 [some (.ref l0), some (.ref l1), some (.ref l2), some (.ref l3), some (.int l4), none, none, none] [] w = am_run 267 1432 [some (.ref l0), some (.ref l1), some (.ref l2), some (.ref l3), some (.int l4), none, none, none] [] w := by
  refine (bu (ls'' := [some (.ref l0), some (.ref l1), some (.ref l2), some (.ref l3), some (.int l4), none, none, none]) (st' := []) bf267_1403 bf267_1432 rfl rfl).trans ?_
  rfl
theorem bk267_1390 {w : am_Wd} {l0 : Nat} {l1 : Nat} {l2 : Nat} {l3 : Nat} {l4 : Int32} {l6 : Int32} : am_run 267 1390 [some (.ref l0), some (.ref l1), some (.ref l2), some (.ref l3), some (.int l4), none, some (.int l6), none] [] w = (am_gf w l3 9 0).bind fun v => am_run 267 1394 [some (.ref l0), some (.ref l1), some (.ref l2), some (.ref l3), some (.int l4), none, some (.int l6), none] (v :: []) w := by
  refine (bu (ls'' := [some (.ref l0), some (.ref l1), some (.ref l2), some (.ref l3), some (.int l4), none, some (.int l6), none]) (st' := [.ref l3]) bf267_1390 bf267_1391 rfl rfl).trans ?_
  exact bh bf267_1391 bf267_1394 rfl (fun _ _ => am_ge_rf w) rfl
theorem bk267_231 {w : am_Wd} {l0 : Nat} {l1 : Nat} {l2 : Nat} {l3 : Nat} {l4 : Int32} {s0 : Int32} : am_run 267 231 [some (.ref l0), some (.ref l1), some (.ref l2), some (.ref l3), some (.int l4), none, none, none] [.int s0] w = am_run 267 1432 [some (.ref l0), some (.ref l1), some (.ref l2), some (.ref l3), some (.int l4), none, none, none] [] w := by
  refine (bu (ls'' := [some (.ref l0), some (.ref l1), some (.ref l2), some (.ref l3), some (.int l4), none, none, none]) (st' := []) bf267_231 bf267_233 rfl rfl).trans ?_
  refine (bu (ls'' := [some (.ref l0), some (.ref l1), some (.ref l2), some (.ref l3), some (.int l4), none, none, none]) (st' := []) bf267_233 bf267_1432 rfl rfl).trans ?_
  rfl
theorem bk267_318 {w : am_Wd} {l0 : Nat} {l1 : Nat} {l2 : Nat} {l3 : Nat} {l4 : Int32} {s0 : Int32} {s1 : Int32} {s2 : Nat} : am_run 267 318 [some (.ref l0), some (.ref l1), some (.ref l2), some (.ref l3), some (.int l4), none, none, none] [.int s0, .int s1, .ref s2] w = if s0 = nI 0 then am_run 267 325 [some (.ref l0), some (.ref l1), some (.ref l2), some (.ref l3), some (.int l4), none, none, none] [.int s1, .ref s2] w else am_run 267 321 [some (.ref l0), some (.ref l1), some (.ref l2), some (.ref l3), some (.int l4), none, none, none] [.int s1, .ref s2] w := by
  exact bifc bf267_318 rfl bf267_325 bf267_321 rfl rfl rfl
theorem bk267_406 {w : am_Wd} {l0 : Nat} {l1 : Nat} {l2 : Nat} {l3 : Nat} {l4 : Int32} {s0 : Int32} {s1 : Int32} {s2 : Int32} {s3 : Nat} : am_run 267 406 [some (.ref l0), some (.ref l1), some (.ref l2), some (.ref l3), some (.int l4), none, none, none] [.int s0, .int s1, .int s2, .ref s3] w = (am_ri 0 w l0 (l4 + (nI 4))).bind fun v => am_run 267 412 [some (.ref l0), some (.ref l1), some (.ref l2), some (.ref l3), some (.int l4), none, none, none] (.int v :: [.int s0, .int s1, .int s2, .ref s3]) w := by
  refine (bu (ls'' := [some (.ref l0), some (.ref l1), some (.ref l2), some (.ref l3), some (.int l4), none, none, none]) (st' := [.ref l0, .int s0, .int s1, .int s2, .ref s3]) bf267_406 bf267_407 rfl rfl).trans ?_
  refine (bu (ls'' := [some (.ref l0), some (.ref l1), some (.ref l2), some (.ref l3), some (.int l4), none, none, none]) (st' := [.int l4, .ref l0, .int s0, .int s1, .int s2, .ref s3]) bf267_407 bf267_409 rfl rfl).trans ?_
  refine (bu (ls'' := [some (.ref l0), some (.ref l1), some (.ref l2), some (.ref l3), some (.int l4), none, none, none]) (st' := [.int (nI 4), .int l4, .ref l0, .int s0, .int s1, .int s2, .ref s3]) bf267_409 bf267_410 rfl rfl).trans ?_
  refine (bu (ls'' := [some (.ref l0), some (.ref l1), some (.ref l2), some (.ref l3), some (.int l4), none, none, none]) (st' := [.int (l4 + (nI 4)), .ref l0, .int s0, .int s1, .int s2, .ref s3]) bf267_410 bf267_411 rfl rfl).trans ?_
  exact bh bf267_411 bf267_412 rfl (fun _ _ => am_ge_rf w) rfl
theorem bk267_479 {w : am_Wd} {l0 : Nat} {l1 : Nat} {l2 : Nat} {l3 : Nat} {l4 : Int32} {s0 : Int32} : am_run 267 479 [some (.ref l0), some (.ref l1), some (.ref l2), some (.ref l3), some (.int l4), none, none, none] [.int s0] w = am_run 267 1432 [some (.ref l0), some (.ref l1), some (.ref l2), some (.ref l3), some (.int l4), none, none, none] [] w := by
  refine (bu (ls'' := [some (.ref l0), some (.ref l1), some (.ref l2), some (.ref l3), some (.int l4), none, none, none]) (st' := []) bf267_479 bf267_481 rfl rfl).trans ?_
  refine (bu (ls'' := [some (.ref l0), some (.ref l1), some (.ref l2), some (.ref l3), some (.int l4), none, none, none]) (st' := []) bf267_481 bf267_1432 rfl rfl).trans ?_
  rfl
theorem bk267_538 {w : am_Wd} {l0 : Nat} {l1 : Nat} {l2 : Nat} {l3 : Nat} {l4 : Int32} {s0 : Int32} {s1 : Int32} {s2 : Nat} : am_run 267 538 [some (.ref l0), some (.ref l1), some (.ref l2), some (.ref l3), some (.int l4), none, none, none] [.int s0, .int s1, .ref s2] w = if s0 = nI 0 then am_run 267 545 [some (.ref l0), some (.ref l1), some (.ref l2), some (.ref l3), some (.int l4), none, none, none] [.int s1, .ref s2] w else am_run 267 541 [some (.ref l0), some (.ref l1), some (.ref l2), some (.ref l3), some (.int l4), none, none, none] [.int s1, .ref s2] w := by
  exact bifc bf267_538 rfl bf267_545 bf267_541 rfl rfl rfl
theorem bk267_619 {w : am_Wd} {l0 : Nat} {l1 : Nat} {l2 : Nat} {l3 : Nat} {l4 : Int32} {s0 : Int32} : am_run 267 619 [some (.ref l0), some (.ref l1), some (.ref l2), some (.ref l3), some (.int l4), none, none, none] [.int s0] w = am_run 267 1432 [some (.ref l0), some (.ref l1), some (.ref l2), some (.ref l3), some (.int l4), none, none, none] [] w := by
  refine (bu (ls'' := [some (.ref l0), some (.ref l1), some (.ref l2), some (.ref l3), some (.int l4), none, none, none]) (st' := []) bf267_619 bf267_621 rfl rfl).trans ?_
  refine (bu (ls'' := [some (.ref l0), some (.ref l1), some (.ref l2), some (.ref l3), some (.int l4), none, none, none]) (st' := []) bf267_621 bf267_1432 rfl rfl).trans ?_
  rfl
theorem bk267_675 {w : am_Wd} {l0 : Nat} {l1 : Nat} {l2 : Nat} {l3 : Nat} {l4 : Int32} {s0 : Int32} : am_run 267 675 [some (.ref l0), some (.ref l1), some (.ref l2), some (.ref l3), some (.int l4), none, none, none] [.int s0] w = am_run 267 1432 [some (.ref l0), some (.ref l1), some (.ref l2), some (.ref l3), some (.int l4), none, none, none] [] w := by
  refine (bu (ls'' := [some (.ref l0), some (.ref l1), some (.ref l2), some (.ref l3), some (.int l4), none, none, none]) (st' := []) bf267_675 bf267_677 rfl rfl).trans ?_
  refine (bu (ls'' := [some (.ref l0), some (.ref l1), some (.ref l2), some (.ref l3), some (.int l4), none, none, none]) (st' := []) bf267_677 bf267_1432 rfl rfl).trans ?_
  rfl
theorem bk267_1394 {w : am_Wd} {l0 : Nat} {l1 : Nat} {l2 : Nat} {l3 : Nat} {l4 : Int32} {l6 : Int32} {s0 : Int64} : am_run 267 1394 [some (.ref l0), some (.ref l1), some (.ref l2), some (.ref l3), some (.int l4), none, some (.int l6), none] [.long s0] w = if (lg_cmp s0 (Int32.toInt64 l6)) = nI 0 then am_run 267 1403 [some (.ref l0), some (.ref l1), some (.ref l2), some (.ref l3), some (.int l4), none, none, none] [] w else am_run 267 1401 [none, none, none, none, none, none, none, none] [] w := by
  refine (bu (ls'' := [some (.ref l0), some (.ref l1), some (.ref l2), some (.ref l3), some (.int l4), none, none, none]) (st' := [.int l6, .long s0]) bf267_1394 bf267_1396 rfl rfl).trans ?_
  refine (bu (ls'' := [some (.ref l0), some (.ref l1), some (.ref l2), some (.ref l3), some (.int l4), none, none, none]) (st' := [.long (Int32.toInt64 l6), .long s0]) bf267_1396 bf267_1397 rfl rfl).trans ?_
  refine (bu (ls'' := [some (.ref l0), some (.ref l1), some (.ref l2), some (.ref l3), some (.int l4), none, none, none]) (st' := [.int (lg_cmp s0 (Int32.toInt64 l6))]) bf267_1397 bf267_1398 rfl rfl).trans ?_
  exact bifc bf267_1398 rfl bf267_1403 bf267_1401 rfl rfl rfl
theorem bk267_325 {w : am_Wd} {l0 : Nat} {l1 : Nat} {l2 : Nat} {l3 : Nat} {l4 : Int32} {s0 : Int32} {s1 : Nat} : am_run 267 325 [some (.ref l0), some (.ref l1), some (.ref l2), some (.ref l3), some (.int l4), none, none, none] [.int s0, .ref s1] w = am_run 267 326 [some (.ref l0), some (.ref l1), some (.ref l2), some (.ref l3), some (.int l4), none, none, none] [.int (nI 0), .int s0, .ref s1] w := by
  refine (bu (ls'' := [some (.ref l0), some (.ref l1), some (.ref l2), some (.ref l3), some (.int l4), none, none, none]) (st' := [.int (nI 0), .int s0, .ref s1]) bf267_325 bf267_326 rfl rfl).trans ?_
  rfl
theorem bk267_321 {w : am_Wd} {l0 : Nat} {l1 : Nat} {l2 : Nat} {l3 : Nat} {l4 : Int32} {s0 : Int32} {s1 : Nat} : am_run 267 321 [some (.ref l0), some (.ref l1), some (.ref l2), some (.ref l3), some (.int l4), none, none, none] [.int s0, .ref s1] w = am_run 267 326 [some (.ref l0), some (.ref l1), some (.ref l2), some (.ref l3), some (.int l4), none, none, none] [.int (nI 1), .int s0, .ref s1] w := by
  refine (bu (ls'' := [some (.ref l0), some (.ref l1), some (.ref l2), some (.ref l3), some (.int l4), none, none, none]) (st' := [.int (nI 1), .int s0, .ref s1]) bf267_321 bf267_322 rfl rfl).trans ?_
  refine (bu (ls'' := [some (.ref l0), some (.ref l1), some (.ref l2), some (.ref l3), some (.int l4), none, none, none]) (st' := [.int (nI 1), .int s0, .ref s1]) bf267_322 bf267_326 rfl rfl).trans ?_
  rfl
theorem bk267_412 {w : am_Wd} {l0 : Nat} {l1 : Nat} {l2 : Nat} {l3 : Nat} {l4 : Int32} {s0 : Int32} {s1 : Int32} {s2 : Int32} {s3 : Int32} {s4 : Nat} : am_run 267 412 [some (.ref l0), some (.ref l1), some (.ref l2), some (.ref l3), some (.int l4), none, none, none] [.int s0, .int s1, .int s2, .int s3, .ref s4] w = if s0 = nI 0 then am_run 267 419 [some (.ref l0), some (.ref l1), some (.ref l2), some (.ref l3), some (.int l4), none, none, none] [.int s1, .int s2, .int s3, .ref s4] w else am_run 267 415 [some (.ref l0), some (.ref l1), some (.ref l2), some (.ref l3), some (.int l4), none, none, none] [.int s1, .int s2, .int s3, .ref s4] w := by
  exact bifc bf267_412 rfl bf267_419 bf267_415 rfl rfl rfl
theorem bk267_545 {w : am_Wd} {l0 : Nat} {l1 : Nat} {l2 : Nat} {l3 : Nat} {l4 : Int32} {s0 : Int32} {s1 : Nat} : am_run 267 545 [some (.ref l0), some (.ref l1), some (.ref l2), some (.ref l3), some (.int l4), none, none, none] [.int s0, .ref s1] w = am_run 267 546 [some (.ref l0), some (.ref l1), some (.ref l2), some (.ref l3), some (.int l4), none, none, none] [.int (nI 0), .int s0, .ref s1] w := by
  refine (bu (ls'' := [some (.ref l0), some (.ref l1), some (.ref l2), some (.ref l3), some (.int l4), none, none, none]) (st' := [.int (nI 0), .int s0, .ref s1]) bf267_545 bf267_546 rfl rfl).trans ?_
  rfl
theorem bk267_541 {w : am_Wd} {l0 : Nat} {l1 : Nat} {l2 : Nat} {l3 : Nat} {l4 : Int32} {s0 : Int32} {s1 : Nat} : am_run 267 541 [some (.ref l0), some (.ref l1), some (.ref l2), some (.ref l3), some (.int l4), none, none, none] [.int s0, .ref s1] w = am_run 267 546 [some (.ref l0), some (.ref l1), some (.ref l2), some (.ref l3), some (.int l4), none, none, none] [.int (nI 1), .int s0, .ref s1] w := by
  refine (bu (ls'' := [some (.ref l0), some (.ref l1), some (.ref l2), some (.ref l3), some (.int l4), none, none, none]) (st' := [.int (nI 1), .int s0, .ref s1]) bf267_541 bf267_542 rfl rfl).trans ?_
  refine (bu (ls'' := [some (.ref l0), some (.ref l1), some (.ref l2), some (.ref l3), some (.int l4), none, none, none]) (st' := [.int (nI 1), .int s0, .ref s1]) bf267_542 bf267_546 rfl rfl).trans ?_
  rfl
theorem bk267_1401 {w : am_Wd}  : am_run 267 1401 [none, none, none, none, none, none, none, none] [] w = some (.inl (some (.int (nI 0))), w) := by
  refine (bu (ls'' := [none, none, none, none, none, none, none, none]) (st' := [.int (nI 0)]) bf267_1401 bf267_1402 rfl rfl).trans ?_
  exact am_e2 bf267_1402 rfl (am_ge_rf w)
theorem bk267_326 {w : am_Wd} {l0 : Nat} {l1 : Nat} {l2 : Nat} {l3 : Nat} {l4 : Int32} {s0 : Int32} {s1 : Int32} {s2 : Nat} : am_run 267 326 [some (.ref l0), some (.ref l1), some (.ref l2), some (.ref l3), some (.int l4), none, none, none] [.int s0, .int s1, .ref s2] w = (am_ri 0 w l0 (l4 + (nI 3))).bind fun v => am_run 267 332 [some (.ref l0), some (.ref l1), some (.ref l2), some (.ref l3), some (.int l4), none, none, none] (.int v :: [.int s0, .int s1, .ref s2]) w := by
  refine (bu (ls'' := [some (.ref l0), some (.ref l1), some (.ref l2), some (.ref l3), some (.int l4), none, none, none]) (st' := [.ref l0, .int s0, .int s1, .ref s2]) bf267_326 bf267_327 rfl rfl).trans ?_
  refine (bu (ls'' := [some (.ref l0), some (.ref l1), some (.ref l2), some (.ref l3), some (.int l4), none, none, none]) (st' := [.int l4, .ref l0, .int s0, .int s1, .ref s2]) bf267_327 bf267_329 rfl rfl).trans ?_
  refine (bu (ls'' := [some (.ref l0), some (.ref l1), some (.ref l2), some (.ref l3), some (.int l4), none, none, none]) (st' := [.int (nI 3), .int l4, .ref l0, .int s0, .int s1, .ref s2]) bf267_329 bf267_330 rfl rfl).trans ?_
  refine (bu (ls'' := [some (.ref l0), some (.ref l1), some (.ref l2), some (.ref l3), some (.int l4), none, none, none]) (st' := [.int (l4 + (nI 3)), .ref l0, .int s0, .int s1, .ref s2]) bf267_330 bf267_331 rfl rfl).trans ?_
  exact bh bf267_331 bf267_332 rfl (fun _ _ => am_ge_rf w) rfl
theorem bk267_419 {w : am_Wd} {l0 : Nat} {l1 : Nat} {l2 : Nat} {l3 : Nat} {l4 : Int32} {s0 : Int32} {s1 : Int32} {s2 : Int32} {s3 : Nat} : am_run 267 419 [some (.ref l0), some (.ref l1), some (.ref l2), some (.ref l3), some (.int l4), none, none, none] [.int s0, .int s1, .int s2, .ref s3] w = am_run 267 420 [some (.ref l0), some (.ref l1), some (.ref l2), some (.ref l3), some (.int l4), none, none, none] [.int (nI 0), .int s0, .int s1, .int s2, .ref s3] w := by
  refine (bu (ls'' := [some (.ref l0), some (.ref l1), some (.ref l2), some (.ref l3), some (.int l4), none, none, none]) (st' := [.int (nI 0), .int s0, .int s1, .int s2, .ref s3]) bf267_419 bf267_420 rfl rfl).trans ?_
  rfl
theorem bk267_415 {w : am_Wd} {l0 : Nat} {l1 : Nat} {l2 : Nat} {l3 : Nat} {l4 : Int32} {s0 : Int32} {s1 : Int32} {s2 : Int32} {s3 : Nat} : am_run 267 415 [some (.ref l0), some (.ref l1), some (.ref l2), some (.ref l3), some (.int l4), none, none, none] [.int s0, .int s1, .int s2, .ref s3] w = am_run 267 420 [some (.ref l0), some (.ref l1), some (.ref l2), some (.ref l3), some (.int l4), none, none, none] [.int (nI 1), .int s0, .int s1, .int s2, .ref s3] w := by
  refine (bu (ls'' := [some (.ref l0), some (.ref l1), some (.ref l2), some (.ref l3), some (.int l4), none, none, none]) (st' := [.int (nI 1), .int s0, .int s1, .int s2, .ref s3]) bf267_415 bf267_416 rfl rfl).trans ?_
  refine (bu (ls'' := [some (.ref l0), some (.ref l1), some (.ref l2), some (.ref l3), some (.int l4), none, none, none]) (st' := [.int (nI 1), .int s0, .int s1, .int s2, .ref s3]) bf267_416 bf267_420 rfl rfl).trans ?_
  rfl
theorem bk267_546 {w : am_Wd} {l0 : Nat} {l1 : Nat} {l2 : Nat} {l3 : Nat} {l4 : Int32} {s0 : Int32} {s1 : Int32} {s2 : Nat} : am_run 267 546 [some (.ref l0), some (.ref l1), some (.ref l2), some (.ref l3), some (.int l4), none, none, none] [.int s0, .int s1, .ref s2] w = (am_ri 0 w l0 (l4 + (nI 3))).bind fun v => am_run 267 552 [some (.ref l0), some (.ref l1), some (.ref l2), some (.ref l3), some (.int l4), none, none, none] (.int v :: [.int s0, .int s1, .ref s2]) w := by
  refine (bu (ls'' := [some (.ref l0), some (.ref l1), some (.ref l2), some (.ref l3), some (.int l4), none, none, none]) (st' := [.ref l0, .int s0, .int s1, .ref s2]) bf267_546 bf267_547 rfl rfl).trans ?_
  refine (bu (ls'' := [some (.ref l0), some (.ref l1), some (.ref l2), some (.ref l3), some (.int l4), none, none, none]) (st' := [.int l4, .ref l0, .int s0, .int s1, .ref s2]) bf267_547 bf267_549 rfl rfl).trans ?_
  refine (bu (ls'' := [some (.ref l0), some (.ref l1), some (.ref l2), some (.ref l3), some (.int l4), none, none, none]) (st' := [.int (nI 3), .int l4, .ref l0, .int s0, .int s1, .ref s2]) bf267_549 bf267_550 rfl rfl).trans ?_
  refine (bu (ls'' := [some (.ref l0), some (.ref l1), some (.ref l2), some (.ref l3), some (.int l4), none, none, none]) (st' := [.int (l4 + (nI 3)), .ref l0, .int s0, .int s1, .ref s2]) bf267_550 bf267_551 rfl rfl).trans ?_
  exact bh bf267_551 bf267_552 rfl (fun _ _ => am_ge_rf w) rfl
theorem bk267_332 {w : am_Wd} {l0 : Nat} {l1 : Nat} {l2 : Nat} {l3 : Nat} {l4 : Int32} {s0 : Int32} {s1 : Int32} {s2 : Int32} {s3 : Nat} : am_run 267 332 [some (.ref l0), some (.ref l1), some (.ref l2), some (.ref l3), some (.int l4), none, none, none] [.int s0, .int s1, .int s2, .ref s3] w = if s0 = nI 0 then am_run 267 339 [some (.ref l0), some (.ref l1), some (.ref l2), some (.ref l3), some (.int l4), none, none, none] [.int s1, .int s2, .ref s3] w else am_run 267 335 [some (.ref l0), some (.ref l1), some (.ref l2), some (.ref l3), some (.int l4), none, none, none] [.int s1, .int s2, .ref s3] w := by
  exact bifc bf267_332 rfl bf267_339 bf267_335 rfl rfl rfl
theorem bk267_420 {w : am_Wd} {l0 : Nat} {l1 : Nat} {l2 : Nat} {l3 : Nat} {l4 : Int32} {s0 : Int32} {s1 : Int32} {s2 : Int32} {s3 : Int32} {s4 : Nat} : am_run 267 420 [some (.ref l0), some (.ref l1), some (.ref l2), some (.ref l3), some (.int l4), none, none, none] [.int s0, .int s1, .int s2, .int s3, .ref s4] w = (am_kf w s4 11).bind fun _ => (am_x 207 [.ref s4, .int s3, .int s2, .int s1, .int s0] w).bind fun r => bct r fun v w' => am_run 267 423 [some (.ref l0), some (.ref l1), some (.ref l2), some (.ref l3), some (.int l4), none, none, none] (v.toList ++ []) w' := by
  exact bkV bf267_420 bf267_423 rfl (by decide +kernel) (Nat.le_of_ble_eq_true rfl) rfl (bhd rfl)
theorem bk267_552 {w : am_Wd} {l0 : Nat} {l1 : Nat} {l2 : Nat} {l3 : Nat} {l4 : Int32} {s0 : Int32} {s1 : Int32} {s2 : Int32} {s3 : Nat} : am_run 267 552 [some (.ref l0), some (.ref l1), some (.ref l2), some (.ref l3), some (.int l4), none, none, none] [.int s0, .int s1, .int s2, .ref s3] w = if s0 = nI 0 then am_run 267 559 [some (.ref l0), some (.ref l1), some (.ref l2), some (.ref l3), some (.int l4), none, none, none] [.int s1, .int s2, .ref s3] w else am_run 267 555 [some (.ref l0), some (.ref l1), some (.ref l2), some (.ref l3), some (.int l4), none, none, none] [.int s1, .int s2, .ref s3] w := by
  exact bifc bf267_552 rfl bf267_559 bf267_555 rfl rfl rfl
theorem bk267_339 {w : am_Wd} {l0 : Nat} {l1 : Nat} {l2 : Nat} {l3 : Nat} {l4 : Int32} {s0 : Int32} {s1 : Int32} {s2 : Nat} : am_run 267 339 [some (.ref l0), some (.ref l1), some (.ref l2), some (.ref l3), some (.int l4), none, none, none] [.int s0, .int s1, .ref s2] w = am_run 267 340 [some (.ref l0), some (.ref l1), some (.ref l2), some (.ref l3), some (.int l4), none, none, none] [.int (nI 0), .int s0, .int s1, .ref s2] w := by
  refine (bu (ls'' := [some (.ref l0), some (.ref l1), some (.ref l2), some (.ref l3), some (.int l4), none, none, none]) (st' := [.int (nI 0), .int s0, .int s1, .ref s2]) bf267_339 bf267_340 rfl rfl).trans ?_
  rfl
theorem bk267_335 {w : am_Wd} {l0 : Nat} {l1 : Nat} {l2 : Nat} {l3 : Nat} {l4 : Int32} {s0 : Int32} {s1 : Int32} {s2 : Nat} : am_run 267 335 [some (.ref l0), some (.ref l1), some (.ref l2), some (.ref l3), some (.int l4), none, none, none] [.int s0, .int s1, .ref s2] w = am_run 267 340 [some (.ref l0), some (.ref l1), some (.ref l2), some (.ref l3), some (.int l4), none, none, none] [.int (nI 1), .int s0, .int s1, .ref s2] w := by
  refine (bu (ls'' := [some (.ref l0), some (.ref l1), some (.ref l2), some (.ref l3), some (.int l4), none, none, none]) (st' := [.int (nI 1), .int s0, .int s1, .ref s2]) bf267_335 bf267_336 rfl rfl).trans ?_
  refine (bu (ls'' := [some (.ref l0), some (.ref l1), some (.ref l2), some (.ref l3), some (.int l4), none, none, none]) (st' := [.int (nI 1), .int s0, .int s1, .ref s2]) bf267_336 bf267_340 rfl rfl).trans ?_
  rfl
theorem bk267_423 {w : am_Wd} {l0 : Nat} {l1 : Nat} {l2 : Nat} {l3 : Nat} {l4 : Int32} {s0 : Int32} : am_run 267 423 [some (.ref l0), some (.ref l1), some (.ref l2), some (.ref l3), some (.int l4), none, none, none] [.int s0] w = am_run 267 1432 [some (.ref l0), some (.ref l1), some (.ref l2), some (.ref l3), some (.int l4), none, none, none] [] w := by
  refine (bu (ls'' := [some (.ref l0), some (.ref l1), some (.ref l2), some (.ref l3), some (.int l4), none, none, none]) (st' := []) bf267_423 bf267_425 rfl rfl).trans ?_
  refine (bu (ls'' := [some (.ref l0), some (.ref l1), some (.ref l2), some (.ref l3), some (.int l4), none, none, none]) (st' := []) bf267_425 bf267_1432 rfl rfl).trans ?_
  rfl
theorem bk267_559 {w : am_Wd} {l0 : Nat} {l1 : Nat} {l2 : Nat} {l3 : Nat} {l4 : Int32} {s0 : Int32} {s1 : Int32} {s2 : Nat} : am_run 267 559 [some (.ref l0), some (.ref l1), some (.ref l2), some (.ref l3), some (.int l4), none, none, none] [.int s0, .int s1, .ref s2] w = am_run 267 560 [some (.ref l0), some (.ref l1), some (.ref l2), some (.ref l3), some (.int l4), none, none, none] [.int (nI 0), .int s0, .int s1, .ref s2] w := by
  refine (bu (ls'' := [some (.ref l0), some (.ref l1), some (.ref l2), some (.ref l3), some (.int l4), none, none, none]) (st' := [.int (nI 0), .int s0, .int s1, .ref s2]) bf267_559 bf267_560 rfl rfl).trans ?_
  rfl
theorem bk267_555 {w : am_Wd} {l0 : Nat} {l1 : Nat} {l2 : Nat} {l3 : Nat} {l4 : Int32} {s0 : Int32} {s1 : Int32} {s2 : Nat} : am_run 267 555 [some (.ref l0), some (.ref l1), some (.ref l2), some (.ref l3), some (.int l4), none, none, none] [.int s0, .int s1, .ref s2] w = am_run 267 560 [some (.ref l0), some (.ref l1), some (.ref l2), some (.ref l3), some (.int l4), none, none, none] [.int (nI 1), .int s0, .int s1, .ref s2] w := by
  refine (bu (ls'' := [some (.ref l0), some (.ref l1), some (.ref l2), some (.ref l3), some (.int l4), none, none, none]) (st' := [.int (nI 1), .int s0, .int s1, .ref s2]) bf267_555 bf267_556 rfl rfl).trans ?_
  refine (bu (ls'' := [some (.ref l0), some (.ref l1), some (.ref l2), some (.ref l3), some (.int l4), none, none, none]) (st' := [.int (nI 1), .int s0, .int s1, .ref s2]) bf267_556 bf267_560 rfl rfl).trans ?_
  rfl
theorem bk267_340 {w : am_Wd} {l0 : Nat} {l1 : Nat} {l2 : Nat} {l3 : Nat} {l4 : Int32} {s0 : Int32} {s1 : Int32} {s2 : Int32} {s3 : Nat} : am_run 267 340 [some (.ref l0), some (.ref l1), some (.ref l2), some (.ref l3), some (.int l4), none, none, none] [.int s0, .int s1, .int s2, .ref s3] w = (am_kf w s3 11).bind fun _ => (am_x 144 [.ref s3, .int s2, .int s1, .int s0] w).bind fun r => bct r fun v w' => am_run 267 343 [some (.ref l0), some (.ref l1), some (.ref l2), some (.ref l3), some (.int l4), none, none, none] (v.toList ++ []) w' := by
  exact bkV bf267_340 bf267_343 rfl (by decide +kernel) (Nat.le_of_ble_eq_true rfl) rfl (bhd rfl)
theorem bk267_560 {w : am_Wd} {l0 : Nat} {l1 : Nat} {l2 : Nat} {l3 : Nat} {l4 : Int32} {s0 : Int32} {s1 : Int32} {s2 : Int32} {s3 : Nat} : am_run 267 560 [some (.ref l0), some (.ref l1), some (.ref l2), some (.ref l3), some (.int l4), none, none, none] [.int s0, .int s1, .int s2, .ref s3] w = (am_kf w s3 11).bind fun _ => (am_x 261 [.ref s3, .int s2, .int s1, .int s0] w).bind fun r => bct r fun v w' => am_run 267 563 [some (.ref l0), some (.ref l1), some (.ref l2), some (.ref l3), some (.int l4), none, none, none] (v.toList ++ []) w' := by
  exact bkV bf267_560 bf267_563 rfl (by decide +kernel) (Nat.le_of_ble_eq_true rfl) rfl (bhd rfl)
theorem bk267_343 {w : am_Wd} {l0 : Nat} {l1 : Nat} {l2 : Nat} {l3 : Nat} {l4 : Int32} {s0 : Int32} : am_run 267 343 [some (.ref l0), some (.ref l1), some (.ref l2), some (.ref l3), some (.int l4), none, none, none] [.int s0] w = am_run 267 1432 [some (.ref l0), some (.ref l1), some (.ref l2), some (.ref l3), some (.int l4), none, none, none] [] w := by
  refine (bu (ls'' := [some (.ref l0), some (.ref l1), some (.ref l2), some (.ref l3), some (.int l4), none, none, none]) (st' := []) bf267_343 bf267_345 rfl rfl).trans ?_
  refine (bu (ls'' := [some (.ref l0), some (.ref l1), some (.ref l2), some (.ref l3), some (.int l4), none, none, none]) (st' := []) bf267_345 bf267_1432 rfl rfl).trans ?_
  rfl
theorem bk267_563 {w : am_Wd} {l0 : Nat} {l1 : Nat} {l2 : Nat} {l3 : Nat} {l4 : Int32} {s0 : Int32} : am_run 267 563 [some (.ref l0), some (.ref l1), some (.ref l2), some (.ref l3), some (.int l4), none, none, none] [.int s0] w = am_run 267 1432 [some (.ref l0), some (.ref l1), some (.ref l2), some (.ref l3), some (.int l4), none, none, none] [] w := by
  refine (bu (ls'' := [some (.ref l0), some (.ref l1), some (.ref l2), some (.ref l3), some (.int l4), none, none, none]) (st' := []) bf267_563 bf267_565 rfl rfl).trans ?_
  refine (bu (ls'' := [some (.ref l0), some (.ref l1), some (.ref l2), some (.ref l3), some (.int l4), none, none, none]) (st' := []) bf267_565 bf267_1432 rfl rfl).trans ?_
  rfl
theorem bx0 {w : am_Wd} {a0 : Nat} : am_x 0 [.ref a0] w = am_run 0 0 [some (.ref a0)] [] w :=
  congrArg (fun l => am_run 0 0 l [] w) (bnr (ls := am_xp [.ref a0] ++ List.replicate (am_ml 0 - (am_xp [.ref a0]).length) none) (ls' := [some (.ref a0)]) bf0_0 rfl)
theorem bx1 {w : am_Wd} {a0 : Nat} : am_x 1 [.ref a0] w = am_run 1 0 [some (.ref a0), none] [] w :=
  congrArg (fun l => am_run 1 0 l [] w) (bnr (ls := am_xp [.ref a0] ++ List.replicate (am_ml 1 - (am_xp [.ref a0]).length) none) (ls' := [some (.ref a0), none]) bf1_0 rfl)
theorem bx2 {w : am_Wd} {a0 : Nat} {a1 : Int32} : am_x 2 [.ref a0, .int a1] w = am_run 2 0 [some (.ref a0), some (.int a1), none] [] w :=
  congrArg (fun l => am_run 2 0 l [] w) (bnr (ls := am_xp [.ref a0, .int a1] ++ List.replicate (am_ml 2 - (am_xp [.ref a0, .int a1]).length) none) (ls' := [some (.ref a0), some (.int a1), none]) bf2_0 rfl)
theorem bx3 {w : am_Wd} {a0 : Nat} : am_x 3 [.ref a0] w = am_run 3 0 [some (.ref a0), none, none, none] [] w :=
  congrArg (fun l => am_run 3 0 l [] w) (bnr (ls := am_xp [.ref a0] ++ List.replicate (am_ml 3 - (am_xp [.ref a0]).length) none) (ls' := [some (.ref a0), none, none, none]) bf3_0 rfl)
theorem bx4 {w : am_Wd} {a0 : Nat} : am_x 4 [.ref a0] w = am_run 4 0 [some (.ref a0), none, none, none] [] w :=
  congrArg (fun l => am_run 4 0 l [] w) (bnr (ls := am_xp [.ref a0] ++ List.replicate (am_ml 4 - (am_xp [.ref a0]).length) none) (ls' := [some (.ref a0), none, none, none]) bf4_0 rfl)
theorem bx5 {w : am_Wd} {a0 : Nat} : am_x 5 [.ref a0] w = am_run 5 0 [some (.ref a0), none, none, none] [] w :=
  congrArg (fun l => am_run 5 0 l [] w) (bnr (ls := am_xp [.ref a0] ++ List.replicate (am_ml 5 - (am_xp [.ref a0]).length) none) (ls' := [some (.ref a0), none, none, none]) bf5_0 rfl)
theorem bx6 {w : am_Wd} {a0 : Nat} : am_x 6 [.ref a0] w = am_run 6 0 [some (.ref a0)] [] w :=
  congrArg (fun l => am_run 6 0 l [] w) (bnr (ls := am_xp [.ref a0] ++ List.replicate (am_ml 6 - (am_xp [.ref a0]).length) none) (ls' := [some (.ref a0)]) bf6_0 rfl)
theorem bx7 {w : am_Wd} {a0 : Int32} : am_x 7 [.int a0] w = am_run 7 0 [some (.int a0)] [] w :=
  congrArg (fun l => am_run 7 0 l [] w) (bnr (ls := am_xp [.int a0] ++ List.replicate (am_ml 7 - (am_xp [.int a0]).length) none) (ls' := [some (.int a0)]) bf7_0 rfl)
theorem bx8 {w : am_Wd} {a0 : Nat} {a1 : Int32} {a2 : Int32} {a3 : Int32} : am_x 8 [.ref a0, .int a1, .int a2, .int a3] w = am_run 8 0 [some (.ref a0), some (.int a1), some (.int a2), some (.int a3), none, none] [] w :=
  congrArg (fun l => am_run 8 0 l [] w) (bnr (ls := am_xp [.ref a0, .int a1, .int a2, .int a3] ++ List.replicate (am_ml 8 - (am_xp [.ref a0, .int a1, .int a2, .int a3]).length) none) (ls' := [some (.ref a0), some (.int a1), some (.int a2), some (.int a3), none, none]) bf8_0 rfl)
theorem bx9 {w : am_Wd} {a0 : Int32} {a1 : Int32} : am_x 9 [.int a0, .int a1] w = am_run 9 0 [some (.int a0), some (.int a1)] [] w :=
  congrArg (fun l => am_run 9 0 l [] w) (bnr (ls := am_xp [.int a0, .int a1] ++ List.replicate (am_ml 9 - (am_xp [.int a0, .int a1]).length) none) (ls' := [some (.int a0), some (.int a1)]) bf9_0 rfl)
theorem bx10 {w : am_Wd} {a0 : Nat} {a1 : Int32} : am_x 10 [.ref a0, .int a1] w = am_run 10 0 [some (.ref a0), some (.int a1), none, none] [] w :=
  congrArg (fun l => am_run 10 0 l [] w) (bnr (ls := am_xp [.ref a0, .int a1] ++ List.replicate (am_ml 10 - (am_xp [.ref a0, .int a1]).length) none) (ls' := [some (.ref a0), some (.int a1), none, none]) bf10_0 rfl)
theorem bx11 {w : am_Wd} {a0 : Int64} {a1 : Int32} : am_x 11 [.long a0, .int a1] w = am_run 11 0 [some (.long a0), none, some (.int a1)] [] w :=
  congrArg (fun l => am_run 11 0 l [] w) (bnr (ls := am_xp [.long a0, .int a1] ++ List.replicate (am_ml 11 - (am_xp [.long a0, .int a1]).length) none) (ls' := [some (.long a0), none, some (.int a1)]) bf11_0 rfl)
theorem bx12 {w : am_Wd}  : am_x 12 [] w = am_run 12 0 [] [] w :=
  congrArg (fun l => am_run 12 0 l [] w) (bnr (ls := am_xp [] ++ List.replicate (am_ml 12 - (am_xp []).length) none) (ls' := []) bf12_0 rfl)
theorem bx13 {w : am_Wd} {a0 : Int32} {a1 : Int32} : am_x 13 [.int a0, .int a1] w = am_run 13 0 [some (.int a0), some (.int a1), none, none] [] w :=
  congrArg (fun l => am_run 13 0 l [] w) (bnr (ls := am_xp [.int a0, .int a1] ++ List.replicate (am_ml 13 - (am_xp [.int a0, .int a1]).length) none) (ls' := [some (.int a0), some (.int a1), none, none]) bf13_0 rfl)
theorem bx14 {w : am_Wd} {a0 : Int64} {a1 : Int32} : am_x 14 [.long a0, .int a1] w = am_run 14 0 [some (.long a0), none, some (.int a1)] [] w :=
  congrArg (fun l => am_run 14 0 l [] w) (bnr (ls := am_xp [.long a0, .int a1] ++ List.replicate (am_ml 14 - (am_xp [.long a0, .int a1]).length) none) (ls' := [some (.long a0), none, some (.int a1)]) bf14_0 rfl)
theorem bx15 {w : am_Wd} {a0 : Int32} {a1 : Int32} : am_x 15 [.int a0, .int a1] w = am_run 15 0 [some (.int a0), some (.int a1)] [] w :=
  congrArg (fun l => am_run 15 0 l [] w) (bnr (ls := am_xp [.int a0, .int a1] ++ List.replicate (am_ml 15 - (am_xp [.int a0, .int a1]).length) none) (ls' := [some (.int a0), some (.int a1)]) bf15_0 rfl)
theorem bx16 {w : am_Wd} {a0 : Int32} {a1 : Int32} : am_x 16 [.int a0, .int a1] w = am_run 16 0 [some (.int a0), some (.int a1), none, none] [] w :=
  congrArg (fun l => am_run 16 0 l [] w) (bnr (ls := am_xp [.int a0, .int a1] ++ List.replicate (am_ml 16 - (am_xp [.int a0, .int a1]).length) none) (ls' := [some (.int a0), some (.int a1), none, none]) bf16_0 rfl)
theorem bx17 {w : am_Wd} {a0 : Nat} : am_x 17 [.ref a0] w = am_run 17 0 [some (.ref a0)] [] w :=
  congrArg (fun l => am_run 17 0 l [] w) (bnr (ls := am_xp [.ref a0] ++ List.replicate (am_ml 17 - (am_xp [.ref a0]).length) none) (ls' := [some (.ref a0)]) bf17_0 rfl)
theorem bx18 {w : am_Wd} {a0 : Nat} : am_x 18 [.ref a0] w = am_run 18 0 [some (.ref a0)] [] w :=
  congrArg (fun l => am_run 18 0 l [] w) (bnr (ls := am_xp [.ref a0] ++ List.replicate (am_ml 18 - (am_xp [.ref a0]).length) none) (ls' := [some (.ref a0)]) bf18_0 rfl)
theorem bx19 {w : am_Wd} {a0 : Int32} : am_x 19 [.int a0] w = am_run 19 0 [some (.int a0)] [] w :=
  congrArg (fun l => am_run 19 0 l [] w) (bnr (ls := am_xp [.int a0] ++ List.replicate (am_ml 19 - (am_xp [.int a0]).length) none) (ls' := [some (.int a0)]) bf19_0 rfl)
theorem bx20 {w : am_Wd} {a0 : Nat} {a1 : Int32} {a2 : Int32} {a3 : Int32} : am_x 20 [.ref a0, .int a1, .int a2, .int a3] w = am_run 20 0 [some (.ref a0), some (.int a1), some (.int a2), some (.int a3), none, none] [] w :=
  congrArg (fun l => am_run 20 0 l [] w) (bnr (ls := am_xp [.ref a0, .int a1, .int a2, .int a3] ++ List.replicate (am_ml 20 - (am_xp [.ref a0, .int a1, .int a2, .int a3]).length) none) (ls' := [some (.ref a0), some (.int a1), some (.int a2), some (.int a3), none, none]) bf20_0 rfl)
theorem bx21 {w : am_Wd} {a0 : Nat} {a1 : Int32} {a2 : Int32} : am_x 21 [.ref a0, .int a1, .int a2] w = am_run 21 0 [some (.ref a0), some (.int a1), some (.int a2)] [] w :=
  congrArg (fun l => am_run 21 0 l [] w) (bnr (ls := am_xp [.ref a0, .int a1, .int a2] ++ List.replicate (am_ml 21 - (am_xp [.ref a0, .int a1, .int a2]).length) none) (ls' := [some (.ref a0), some (.int a1), some (.int a2)]) bf21_0 rfl)
theorem bx22 {w : am_Wd} {a0 : Nat} {a1 : Int32} : am_x 22 [.ref a0, .int a1] w = am_run 22 0 [some (.ref a0), some (.int a1)] [] w :=
  congrArg (fun l => am_run 22 0 l [] w) (bnr (ls := am_xp [.ref a0, .int a1] ++ List.replicate (am_ml 22 - (am_xp [.ref a0, .int a1]).length) none) (ls' := [some (.ref a0), some (.int a1)]) bf22_0 rfl)
theorem bx23 {w : am_Wd} {a0 : Nat} {a1 : Int64} : am_x 23 [.ref a0, .long a1] w = am_run 23 0 [some (.ref a0), some (.long a1), none, none, none, none, none, none, none, none, none] [] w :=
  congrArg (fun l => am_run 23 0 l [] w) (bnr (ls := am_xp [.ref a0, .long a1] ++ List.replicate (am_ml 23 - (am_xp [.ref a0, .long a1]).length) none) (ls' := [some (.ref a0), some (.long a1), none, none, none, none, none, none, none, none, none]) bf23_0 rfl)
theorem bx24 {w : am_Wd} {a0 : Nat} : am_x 24 [.ref a0] w = am_run 24 0 [some (.ref a0)] [] w :=
  congrArg (fun l => am_run 24 0 l [] w) (bnr (ls := am_xp [.ref a0] ++ List.replicate (am_ml 24 - (am_xp [.ref a0]).length) none) (ls' := [some (.ref a0)]) bf24_0 rfl)
theorem bx25 {w : am_Wd} {a0 : Int64} {a1 : Int64} : am_x 25 [.long a0, .long a1] w = am_run 25 0 [some (.long a0), none, some (.long a1), none] [] w :=
  congrArg (fun l => am_run 25 0 l [] w) (bnr (ls := am_xp [.long a0, .long a1] ++ List.replicate (am_ml 25 - (am_xp [.long a0, .long a1]).length) none) (ls' := [some (.long a0), none, some (.long a1), none]) bf25_0 rfl)
theorem bx26 {w : am_Wd} {a0 : Int32} : am_x 26 [.int a0] w = am_run 26 0 [some (.int a0)] [] w :=
  congrArg (fun l => am_run 26 0 l [] w) (bnr (ls := am_xp [.int a0] ++ List.replicate (am_ml 26 - (am_xp [.int a0]).length) none) (ls' := [some (.int a0)]) bf26_0 rfl)
theorem bx27 {w : am_Wd} {a0 : Int32} : am_x 27 [.int a0] w = am_run 27 0 [some (.int a0)] [] w :=
  congrArg (fun l => am_run 27 0 l [] w) (bnr (ls := am_xp [.int a0] ++ List.replicate (am_ml 27 - (am_xp [.int a0]).length) none) (ls' := [some (.int a0)]) bf27_0 rfl)
theorem bx28 {w : am_Wd} {a0 : Int32} : am_x 28 [.int a0] w = am_run 28 0 [some (.int a0)] [] w :=
  congrArg (fun l => am_run 28 0 l [] w) (bnr (ls := am_xp [.int a0] ++ List.replicate (am_ml 28 - (am_xp [.int a0]).length) none) (ls' := [some (.int a0)]) bf28_0 rfl)
theorem bx29 {w : am_Wd} {a0 : Int32} : am_x 29 [.int a0] w = am_run 29 0 [some (.int a0)] [] w :=
  congrArg (fun l => am_run 29 0 l [] w) (bnr (ls := am_xp [.int a0] ++ List.replicate (am_ml 29 - (am_xp [.int a0]).length) none) (ls' := [some (.int a0)]) bf29_0 rfl)
theorem bx30 {w : am_Wd} {a0 : Int32} : am_x 30 [.int a0] w = am_run 30 0 [some (.int a0)] [] w :=
  congrArg (fun l => am_run 30 0 l [] w) (bnr (ls := am_xp [.int a0] ++ List.replicate (am_ml 30 - (am_xp [.int a0]).length) none) (ls' := [some (.int a0)]) bf30_0 rfl)
theorem bx31 {w : am_Wd} {a0 : Nat} {a1 : Int32} : am_x 31 [.ref a0, .int a1] w = am_run 31 0 [some (.ref a0), some (.int a1)] [] w :=
  congrArg (fun l => am_run 31 0 l [] w) (bnr (ls := am_xp [.ref a0, .int a1] ++ List.replicate (am_ml 31 - (am_xp [.ref a0, .int a1]).length) none) (ls' := [some (.ref a0), some (.int a1)]) bf31_0 rfl)
theorem bx32 {w : am_Wd} {a0 : Nat} {a1 : Nat} : am_x 32 [.ref a0, .ref a1] w = am_run 32 0 [some (.ref a0), some (.ref a1)] [] w :=
  congrArg (fun l => am_run 32 0 l [] w) (bnr (ls := am_xp [.ref a0, .ref a1] ++ List.replicate (am_ml 32 - (am_xp [.ref a0, .ref a1]).length) none) (ls' := [some (.ref a0), some (.ref a1)]) bf32_0 rfl)
theorem bx33 {w : am_Wd} {a0 : Nat} : am_x 33 [.ref a0] w = am_run 33 0 [some (.ref a0)] [] w :=
  congrArg (fun l => am_run 33 0 l [] w) (bnr (ls := am_xp [.ref a0] ++ List.replicate (am_ml 33 - (am_xp [.ref a0]).length) none) (ls' := [some (.ref a0)]) bf33_0 rfl)
theorem bx34 {w : am_Wd} {a0 : Int32} : am_x 34 [.int a0] w = am_run 34 0 [some (.int a0)] [] w :=
  congrArg (fun l => am_run 34 0 l [] w) (bnr (ls := am_xp [.int a0] ++ List.replicate (am_ml 34 - (am_xp [.int a0]).length) none) (ls' := [some (.int a0)]) bf34_0 rfl)
theorem bx35 {w : am_Wd} {a0 : Nat} : am_x 35 [.ref a0] w = am_run 35 0 [some (.ref a0)] [] w :=
  congrArg (fun l => am_run 35 0 l [] w) (bnr (ls := am_xp [.ref a0] ++ List.replicate (am_ml 35 - (am_xp [.ref a0]).length) none) (ls' := [some (.ref a0)]) bf35_0 rfl)
theorem bx36 {w : am_Wd} {a0 : Nat} : am_x 36 [.ref a0] w = am_run 36 0 [some (.ref a0)] [] w :=
  congrArg (fun l => am_run 36 0 l [] w) (bnr (ls := am_xp [.ref a0] ++ List.replicate (am_ml 36 - (am_xp [.ref a0]).length) none) (ls' := [some (.ref a0)]) bf36_0 rfl)
theorem bx37 {w : am_Wd} {a0 : Nat} : am_x 37 [.ref a0] w = am_run 37 0 [some (.ref a0), none, none, none, none, none] [] w :=
  congrArg (fun l => am_run 37 0 l [] w) (bnr (ls := am_xp [.ref a0] ++ List.replicate (am_ml 37 - (am_xp [.ref a0]).length) none) (ls' := [some (.ref a0), none, none, none, none, none]) bf37_0 rfl)
theorem bx38 {w : am_Wd} {a0 : Nat} : am_x 38 [.ref a0] w = am_run 38 0 [some (.ref a0)] [] w :=
  congrArg (fun l => am_run 38 0 l [] w) (bnr (ls := am_xp [.ref a0] ++ List.replicate (am_ml 38 - (am_xp [.ref a0]).length) none) (ls' := [some (.ref a0)]) bf38_0 rfl)
theorem bx39 {w : am_Wd} {a0 : Int32} {a1 : Int32} {a2 : Int32} : am_x 39 [.int a0, .int a1, .int a2] w = am_run 39 0 [some (.int a0), some (.int a1), some (.int a2)] [] w :=
  congrArg (fun l => am_run 39 0 l [] w) (bnr (ls := am_xp [.int a0, .int a1, .int a2] ++ List.replicate (am_ml 39 - (am_xp [.int a0, .int a1, .int a2]).length) none) (ls' := [some (.int a0), some (.int a1), some (.int a2)]) bf39_0 rfl)
theorem bx40 {w : am_Wd} {a0 : Nat} {a1 : Int32} {a2 : Int32} : am_x 40 [.ref a0, .int a1, .int a2] w = am_run 40 0 [some (.ref a0), some (.int a1), some (.int a2)] [] w :=
  congrArg (fun l => am_run 40 0 l [] w) (bnr (ls := am_xp [.ref a0, .int a1, .int a2] ++ List.replicate (am_ml 40 - (am_xp [.ref a0, .int a1, .int a2]).length) none) (ls' := [some (.ref a0), some (.int a1), some (.int a2)]) bf40_0 rfl)
theorem bx41 {w : am_Wd} {a0 : Int32} : am_x 41 [.int a0] w = am_run 41 0 [some (.int a0)] [] w :=
  congrArg (fun l => am_run 41 0 l [] w) (bnr (ls := am_xp [.int a0] ++ List.replicate (am_ml 41 - (am_xp [.int a0]).length) none) (ls' := [some (.int a0)]) bf41_0 rfl)
theorem bx42 {w : am_Wd} {a0 : Nat} {a1 : Int32} {a2 : Int32} : am_x 42 [.ref a0, .int a1, .int a2] w = am_run 42 0 [some (.ref a0), some (.int a1), some (.int a2)] [] w :=
  congrArg (fun l => am_run 42 0 l [] w) (bnr (ls := am_xp [.ref a0, .int a1, .int a2] ++ List.replicate (am_ml 42 - (am_xp [.ref a0, .int a1, .int a2]).length) none) (ls' := [some (.ref a0), some (.int a1), some (.int a2)]) bf42_0 rfl)
theorem bx43 {w : am_Wd} {a0 : Int32} {a1 : Int32} : am_x 43 [.int a0, .int a1] w = am_run 43 0 [some (.int a0), some (.int a1)] [] w :=
  congrArg (fun l => am_run 43 0 l [] w) (bnr (ls := am_xp [.int a0, .int a1] ++ List.replicate (am_ml 43 - (am_xp [.int a0, .int a1]).length) none) (ls' := [some (.int a0), some (.int a1)]) bf43_0 rfl)
theorem bx44 {w : am_Wd} {a0 : Nat} : am_x 44 [.ref a0] w = am_run 44 0 [some (.ref a0), none, none, none, none, none] [] w :=
  congrArg (fun l => am_run 44 0 l [] w) (bnr (ls := am_xp [.ref a0] ++ List.replicate (am_ml 44 - (am_xp [.ref a0]).length) none) (ls' := [some (.ref a0), none, none, none, none, none]) bf44_0 rfl)
theorem bx45 {w : am_Wd} {a0 : Nat} : am_x 45 [.ref a0] w = am_run 45 0 [some (.ref a0), none] [] w :=
  congrArg (fun l => am_run 45 0 l [] w) (bnr (ls := am_xp [.ref a0] ++ List.replicate (am_ml 45 - (am_xp [.ref a0]).length) none) (ls' := [some (.ref a0), none]) bf45_0 rfl)
theorem bx46 {w : am_Wd} {a0 : Nat} {a1 : Nat} : am_x 46 [.ref a0, .ref a1] w = am_run 46 0 [some (.ref a0), some (.ref a1)] [] w :=
  congrArg (fun l => am_run 46 0 l [] w) (bnr (ls := am_xp [.ref a0, .ref a1] ++ List.replicate (am_ml 46 - (am_xp [.ref a0, .ref a1]).length) none) (ls' := [some (.ref a0), some (.ref a1)]) bf46_0 rfl)
theorem bx47 {w : am_Wd} {a0 : Nat} : am_x 47 [.ref a0] w = am_run 47 0 [some (.ref a0)] [] w :=
  congrArg (fun l => am_run 47 0 l [] w) (bnr (ls := am_xp [.ref a0] ++ List.replicate (am_ml 47 - (am_xp [.ref a0]).length) none) (ls' := [some (.ref a0)]) bf47_0 rfl)
theorem bx48 {w : am_Wd} {a0 : Nat} {a1 : Nat} {a2 : Int32} : am_x 48 [.ref a0, .ref a1, .int a2] w = am_run 48 0 [none, some (.ref a1), some (.int a2), none, none, none] [] w :=
  congrArg (fun l => am_run 48 0 l [] w) (bnr (ls := am_xp [.ref a0, .ref a1, .int a2] ++ List.replicate (am_ml 48 - (am_xp [.ref a0, .ref a1, .int a2]).length) none) (ls' := [none, some (.ref a1), some (.int a2), none, none, none]) bf48_0 rfl)
theorem bx49 {w : am_Wd} {a0 : Nat} {a1 : Nat} : am_x 49 [.ref a0, .ref a1] w = am_run 49 0 [none, some (.ref a1), none, none] [] w :=
  congrArg (fun l => am_run 49 0 l [] w) (bnr (ls := am_xp [.ref a0, .ref a1] ++ List.replicate (am_ml 49 - (am_xp [.ref a0, .ref a1]).length) none) (ls' := [none, some (.ref a1), none, none]) bf49_0 rfl)
theorem bx50 {w : am_Wd} {a0 : Int64} : am_x 50 [.long a0] w = am_run 50 0 [some (.long a0), none] [] w :=
  congrArg (fun l => am_run 50 0 l [] w) (bnr (ls := am_xp [.long a0] ++ List.replicate (am_ml 50 - (am_xp [.long a0]).length) none) (ls' := [some (.long a0), none]) bf50_0 rfl)
theorem bx51 {w : am_Wd} {a0 : Nat} : am_x 51 [.ref a0] w = am_run 51 0 [some (.ref a0)] [] w :=
  congrArg (fun l => am_run 51 0 l [] w) (bnr (ls := am_xp [.ref a0] ++ List.replicate (am_ml 51 - (am_xp [.ref a0]).length) none) (ls' := [some (.ref a0)]) bf51_0 rfl)
theorem bx52 {w : am_Wd} {a0 : Nat} : am_x 52 [.ref a0] w = am_run 52 0 [some (.ref a0)] [] w :=
  congrArg (fun l => am_run 52 0 l [] w) (bnr (ls := am_xp [.ref a0] ++ List.replicate (am_ml 52 - (am_xp [.ref a0]).length) none) (ls' := [some (.ref a0)]) bf52_0 rfl)
theorem bx53 {w : am_Wd} {a0 : Nat} {a1 : Nat} : am_x 53 [.ref a0, .ref a1] w = am_run 53 0 [some (.ref a0), some (.ref a1)] [] w :=
  congrArg (fun l => am_run 53 0 l [] w) (bnr (ls := am_xp [.ref a0, .ref a1] ++ List.replicate (am_ml 53 - (am_xp [.ref a0, .ref a1]).length) none) (ls' := [some (.ref a0), some (.ref a1)]) bf53_0 rfl)
theorem bx54 {w : am_Wd} {a0 : Nat} {a1 : Int32} : am_x 54 [.ref a0, .int a1] w = am_run 54 0 [some (.ref a0), some (.int a1)] [] w :=
  congrArg (fun l => am_run 54 0 l [] w) (bnr (ls := am_xp [.ref a0, .int a1] ++ List.replicate (am_ml 54 - (am_xp [.ref a0, .int a1]).length) none) (ls' := [some (.ref a0), some (.int a1)]) bf54_0 rfl)
theorem bx55 {w : am_Wd} {a0 : Nat} {a1 : Int32} : am_x 55 [.ref a0, .int a1] w = am_run 55 0 [some (.ref a0), some (.int a1), none, none] [] w :=
  congrArg (fun l => am_run 55 0 l [] w) (bnr (ls := am_xp [.ref a0, .int a1] ++ List.replicate (am_ml 55 - (am_xp [.ref a0, .int a1]).length) none) (ls' := [some (.ref a0), some (.int a1), none, none]) bf55_0 rfl)
theorem bx56 {w : am_Wd} {a0 : Nat} : am_x 56 [.ref a0] w = am_run 56 0 [some (.ref a0)] [] w :=
  congrArg (fun l => am_run 56 0 l [] w) (bnr (ls := am_xp [.ref a0] ++ List.replicate (am_ml 56 - (am_xp [.ref a0]).length) none) (ls' := [some (.ref a0)]) bf56_0 rfl)
theorem bx57 {w : am_Wd} {a0 : Nat} : am_x 57 [.ref a0] w = am_run 57 0 [some (.ref a0)] [] w :=
  congrArg (fun l => am_run 57 0 l [] w) (bnr (ls := am_xp [.ref a0] ++ List.replicate (am_ml 57 - (am_xp [.ref a0]).length) none) (ls' := [some (.ref a0)]) bf57_0 rfl)
theorem bx58 {w : am_Wd} {a0 : Int32} {a1 : Int32} {a2 : Nat} : am_x 58 [.int a0, .int a1, .ref a2] w = am_run 58 0 [some (.int a0), some (.int a1), some (.ref a2)] [] w :=
  congrArg (fun l => am_run 58 0 l [] w) (bnr (ls := am_xp [.int a0, .int a1, .ref a2] ++ List.replicate (am_ml 58 - (am_xp [.int a0, .int a1, .ref a2]).length) none) (ls' := [some (.int a0), some (.int a1), some (.ref a2)]) bf58_0 rfl)
theorem bx72 {w : am_Wd} {a0 : Nat} : am_x 72 [.ref a0] w = am_run 72 0 [some (.ref a0), none, none] [] w :=
  congrArg (fun l => am_run 72 0 l [] w) (bnr (ls := am_xp [.ref a0] ++ List.replicate (am_ml 72 - (am_xp [.ref a0]).length) none) (ls' := [some (.ref a0), none, none]) bf72_0 rfl)
theorem bx73 {w : am_Wd} {a0 : Nat} {a1 : Int32} : am_x 73 [.ref a0, .int a1] w = am_run 73 0 [some (.ref a0), some (.int a1)] [] w :=
  congrArg (fun l => am_run 73 0 l [] w) (bnr (ls := am_xp [.ref a0, .int a1] ++ List.replicate (am_ml 73 - (am_xp [.ref a0, .int a1]).length) none) (ls' := [some (.ref a0), some (.int a1)]) bf73_0 rfl)
theorem bx74 {w : am_Wd} {a0 : Nat} {a1 : Int32} {a2 : Int32} {a3 : Nat} : am_x 74 [.ref a0, .int a1, .int a2, .ref a3] w = am_run 74 0 [some (.ref a0), some (.int a1), some (.int a2), some (.ref a3), none, none] [] w :=
  congrArg (fun l => am_run 74 0 l [] w) (bnr (ls := am_xp [.ref a0, .int a1, .int a2, .ref a3] ++ List.replicate (am_ml 74 - (am_xp [.ref a0, .int a1, .int a2, .ref a3]).length) none) (ls' := [some (.ref a0), some (.int a1), some (.int a2), some (.ref a3), none, none]) bf74_0 rfl)
theorem bx75 {w : am_Wd} {a0 : Nat} {a1 : Int32} {a2 : Int32} {a3 : Nat} : am_x 75 [.ref a0, .int a1, .int a2, .ref a3] w = am_run 75 0 [some (.ref a0), some (.int a1), some (.int a2), some (.ref a3), none, none, none] [] w :=
  congrArg (fun l => am_run 75 0 l [] w) (bnr (ls := am_xp [.ref a0, .int a1, .int a2, .ref a3] ++ List.replicate (am_ml 75 - (am_xp [.ref a0, .int a1, .int a2, .ref a3]).length) none) (ls' := [some (.ref a0), some (.int a1), some (.int a2), some (.ref a3), none, none, none]) bf75_0 rfl)
theorem bx76 {w : am_Wd} {a0 : Int32} {a1 : Int32} : am_x 76 [.int a0, .int a1] w = am_run 76 0 [some (.int a0), some (.int a1), none, none] [] w :=
  congrArg (fun l => am_run 76 0 l [] w) (bnr (ls := am_xp [.int a0, .int a1] ++ List.replicate (am_ml 76 - (am_xp [.int a0, .int a1]).length) none) (ls' := [some (.int a0), some (.int a1), none, none]) bf76_0 rfl)
theorem bx77 {w : am_Wd} {a0 : Nat} {a1 : Int32} : am_x 77 [.ref a0, .int a1] w = am_run 77 0 [some (.ref a0), some (.int a1), none, none] [] w :=
  congrArg (fun l => am_run 77 0 l [] w) (bnr (ls := am_xp [.ref a0, .int a1] ++ List.replicate (am_ml 77 - (am_xp [.ref a0, .int a1]).length) none) (ls' := [some (.ref a0), some (.int a1), none, none]) bf77_0 rfl)
theorem bx78 {w : am_Wd} {a0 : Nat} : am_x 78 [.ref a0] w = am_run 78 0 [some (.ref a0), none] [] w :=
  congrArg (fun l => am_run 78 0 l [] w) (bnr (ls := am_xp [.ref a0] ++ List.replicate (am_ml 78 - (am_xp [.ref a0]).length) none) (ls' := [some (.ref a0), none]) bf78_0 rfl)
theorem bx79 {w : am_Wd} {a0 : Nat} {a1 : Int32} : am_x 79 [.ref a0, .int a1] w = am_run 79 0 [some (.ref a0), some (.int a1), none] [] w :=
  congrArg (fun l => am_run 79 0 l [] w) (bnr (ls := am_xp [.ref a0, .int a1] ++ List.replicate (am_ml 79 - (am_xp [.ref a0, .int a1]).length) none) (ls' := [some (.ref a0), some (.int a1), none]) bf79_0 rfl)
theorem bx80 {w : am_Wd} {a0 : Nat} : am_x 80 [.ref a0] w = am_run 80 0 [some (.ref a0)] [] w :=
  congrArg (fun l => am_run 80 0 l [] w) (bnr (ls := am_xp [.ref a0] ++ List.replicate (am_ml 80 - (am_xp [.ref a0]).length) none) (ls' := [some (.ref a0)]) bf80_0 rfl)
theorem bx81 {w : am_Wd} {a0 : Nat} {a1 : Int32} {a2 : Int32} : am_x 81 [.ref a0, .int a1, .int a2] w = am_run 81 0 [some (.ref a0), some (.int a1), some (.int a2)] [] w :=
  congrArg (fun l => am_run 81 0 l [] w) (bnr (ls := am_xp [.ref a0, .int a1, .int a2] ++ List.replicate (am_ml 81 - (am_xp [.ref a0, .int a1, .int a2]).length) none) (ls' := [some (.ref a0), some (.int a1), some (.int a2)]) bf81_0 rfl)
theorem bx82 {w : am_Wd} {a0 : Nat} {a1 : Int32} {a2 : Int32} {a3 : Int32} : am_x 82 [.ref a0, .int a1, .int a2, .int a3] w = am_run 82 0 [some (.ref a0), some (.int a1), some (.int a2), some (.int a3), none] [] w :=
  congrArg (fun l => am_run 82 0 l [] w) (bnr (ls := am_xp [.ref a0, .int a1, .int a2, .int a3] ++ List.replicate (am_ml 82 - (am_xp [.ref a0, .int a1, .int a2, .int a3]).length) none) (ls' := [some (.ref a0), some (.int a1), some (.int a2), some (.int a3), none]) bf82_0 rfl)
theorem bx83 {w : am_Wd} {a0 : Nat} : am_x 83 [.ref a0] w = am_run 83 0 [some (.ref a0)] [] w :=
  congrArg (fun l => am_run 83 0 l [] w) (bnr (ls := am_xp [.ref a0] ++ List.replicate (am_ml 83 - (am_xp [.ref a0]).length) none) (ls' := [some (.ref a0)]) bf83_0 rfl)
theorem bx84 {w : am_Wd} {a0 : Nat} : am_x 84 [.ref a0] w = am_run 84 0 [some (.ref a0)] [] w :=
  congrArg (fun l => am_run 84 0 l [] w) (bnr (ls := am_xp [.ref a0] ++ List.replicate (am_ml 84 - (am_xp [.ref a0]).length) none) (ls' := [some (.ref a0)]) bf84_0 rfl)
theorem bx85 {w : am_Wd} {a0 : Nat} : am_x 85 [.ref a0] w = am_run 85 0 [some (.ref a0)] [] w :=
  congrArg (fun l => am_run 85 0 l [] w) (bnr (ls := am_xp [.ref a0] ++ List.replicate (am_ml 85 - (am_xp [.ref a0]).length) none) (ls' := [some (.ref a0)]) bf85_0 rfl)
theorem bx86 {w : am_Wd} {a0 : Nat} {a1 : Nat} : am_x 86 [.ref a0, .ref a1] w = am_run 86 0 [some (.ref a0), some (.ref a1), none, none] [] w :=
  congrArg (fun l => am_run 86 0 l [] w) (bnr (ls := am_xp [.ref a0, .ref a1] ++ List.replicate (am_ml 86 - (am_xp [.ref a0, .ref a1]).length) none) (ls' := [some (.ref a0), some (.ref a1), none, none]) bf86_0 rfl)
theorem bx87 {w : am_Wd} {a0 : Nat} {a1 : Int32} {a2 : Int32} : am_x 87 [.ref a0, .int a1, .int a2] w = am_run 87 0 [some (.ref a0), some (.int a1), some (.int a2), none, none, none] [] w :=
  congrArg (fun l => am_run 87 0 l [] w) (bnr (ls := am_xp [.ref a0, .int a1, .int a2] ++ List.replicate (am_ml 87 - (am_xp [.ref a0, .int a1, .int a2]).length) none) (ls' := [some (.ref a0), some (.int a1), some (.int a2), none, none, none]) bf87_0 rfl)
theorem bx88 {w : am_Wd} {a0 : Int64} : am_x 88 [.long a0] w = am_run 88 0 [some (.long a0), none, none] [] w :=
  congrArg (fun l => am_run 88 0 l [] w) (bnr (ls := am_xp [.long a0] ++ List.replicate (am_ml 88 - (am_xp [.long a0]).length) none) (ls' := [some (.long a0), none, none]) bf88_0 rfl)
theorem bx89 {w : am_Wd} {a0 : Nat} : am_x 89 [.ref a0] w = am_run 89 0 [some (.ref a0)] [] w :=
  congrArg (fun l => am_run 89 0 l [] w) (bnr (ls := am_xp [.ref a0] ++ List.replicate (am_ml 89 - (am_xp [.ref a0]).length) none) (ls' := [some (.ref a0)]) bf89_0 rfl)
theorem bx90 {w : am_Wd} {a0 : Nat} {a1 : Int32} {a2 : Int32} {a3 : Int32} : am_x 90 [.ref a0, .int a1, .int a2, .int a3] w = am_run 90 0 [some (.ref a0), some (.int a1), some (.int a2), some (.int a3)] [] w :=
  congrArg (fun l => am_run 90 0 l [] w) (bnr (ls := am_xp [.ref a0, .int a1, .int a2, .int a3] ++ List.replicate (am_ml 90 - (am_xp [.ref a0, .int a1, .int a2, .int a3]).length) none) (ls' := [some (.ref a0), some (.int a1), some (.int a2), some (.int a3)]) bf90_0 rfl)
theorem bx91 {w : am_Wd} {a0 : Nat} {a1 : Int32} : am_x 91 [.ref a0, .int a1] w = am_run 91 0 [some (.ref a0), some (.int a1), none] [] w :=
  congrArg (fun l => am_run 91 0 l [] w) (bnr (ls := am_xp [.ref a0, .int a1] ++ List.replicate (am_ml 91 - (am_xp [.ref a0, .int a1]).length) none) (ls' := [some (.ref a0), some (.int a1), none]) bf91_0 rfl)
theorem bx92 {w : am_Wd} {a0 : Int32} {a1 : Int32} {a2 : Int32} : am_x 92 [.int a0, .int a1, .int a2] w = am_run 92 0 [some (.int a0), some (.int a1), some (.int a2)] [] w :=
  congrArg (fun l => am_run 92 0 l [] w) (bnr (ls := am_xp [.int a0, .int a1, .int a2] ++ List.replicate (am_ml 92 - (am_xp [.int a0, .int a1, .int a2]).length) none) (ls' := [some (.int a0), some (.int a1), some (.int a2)]) bf92_0 rfl)
theorem bx93 {w : am_Wd} {a0 : Nat} : am_x 93 [.ref a0] w = am_run 93 0 [some (.ref a0), none] [] w :=
  congrArg (fun l => am_run 93 0 l [] w) (bnr (ls := am_xp [.ref a0] ++ List.replicate (am_ml 93 - (am_xp [.ref a0]).length) none) (ls' := [some (.ref a0), none]) bf93_0 rfl)
theorem bx94 {w : am_Wd} {a0 : Nat} {a1 : Int32} : am_x 94 [.ref a0, .int a1] w = am_run 94 0 [some (.ref a0), some (.int a1), none, none] [] w :=
  congrArg (fun l => am_run 94 0 l [] w) (bnr (ls := am_xp [.ref a0, .int a1] ++ List.replicate (am_ml 94 - (am_xp [.ref a0, .int a1]).length) none) (ls' := [some (.ref a0), some (.int a1), none, none]) bf94_0 rfl)
theorem bx95 {w : am_Wd} {a0 : Nat} : am_x 95 [.ref a0] w = am_run 95 0 [some (.ref a0), none] [] w :=
  congrArg (fun l => am_run 95 0 l [] w) (bnr (ls := am_xp [.ref a0] ++ List.replicate (am_ml 95 - (am_xp [.ref a0]).length) none) (ls' := [some (.ref a0), none]) bf95_0 rfl)
theorem bx96 {w : am_Wd} {a0 : Nat} {a1 : Int32} {a2 : Int32} : am_x 96 [.ref a0, .int a1, .int a2] w = am_run 96 0 [some (.ref a0), some (.int a1), some (.int a2)] [] w :=
  congrArg (fun l => am_run 96 0 l [] w) (bnr (ls := am_xp [.ref a0, .int a1, .int a2] ++ List.replicate (am_ml 96 - (am_xp [.ref a0, .int a1, .int a2]).length) none) (ls' := [some (.ref a0), some (.int a1), some (.int a2)]) bf96_0 rfl)
theorem bx97 {w : am_Wd} {a0 : Int32} : am_x 97 [.int a0] w = am_run 97 0 [some (.int a0)] [] w :=
  congrArg (fun l => am_run 97 0 l [] w) (bnr (ls := am_xp [.int a0] ++ List.replicate (am_ml 97 - (am_xp [.int a0]).length) none) (ls' := [some (.int a0)]) bf97_0 rfl)
theorem bx98 {w : am_Wd} {a0 : Int32} : am_x 98 [.int a0] w = am_run 98 0 [some (.int a0)] [] w :=
  congrArg (fun l => am_run 98 0 l [] w) (bnr (ls := am_xp [.int a0] ++ List.replicate (am_ml 98 - (am_xp [.int a0]).length) none) (ls' := [some (.int a0)]) bf98_0 rfl)
theorem bx99 {w : am_Wd} {a0 : Nat} {a1 : Int32} : am_x 99 [.ref a0, .int a1] w = am_run 99 0 [some (.ref a0), some (.int a1)] [] w :=
  congrArg (fun l => am_run 99 0 l [] w) (bnr (ls := am_xp [.ref a0, .int a1] ++ List.replicate (am_ml 99 - (am_xp [.ref a0, .int a1]).length) none) (ls' := [some (.ref a0), some (.int a1)]) bf99_0 rfl)
theorem bx100 {w : am_Wd} {a0 : Int32} {a1 : Int32} : am_x 100 [.int a0, .int a1] w = am_run 100 0 [some (.int a0), some (.int a1), none, none] [] w :=
  congrArg (fun l => am_run 100 0 l [] w) (bnr (ls := am_xp [.int a0, .int a1] ++ List.replicate (am_ml 100 - (am_xp [.int a0, .int a1]).length) none) (ls' := [some (.int a0), some (.int a1), none, none]) bf100_0 rfl)
theorem bx101 {w : am_Wd} {a0 : Nat} {a1 : Int32} {a2 : Int32} : am_x 101 [.ref a0, .int a1, .int a2] w = am_run 101 0 [some (.ref a0), some (.int a1), some (.int a2)] [] w :=
  congrArg (fun l => am_run 101 0 l [] w) (bnr (ls := am_xp [.ref a0, .int a1, .int a2] ++ List.replicate (am_ml 101 - (am_xp [.ref a0, .int a1, .int a2]).length) none) (ls' := [some (.ref a0), some (.int a1), some (.int a2)]) bf101_0 rfl)
theorem bx102 {w : am_Wd} {a0 : Nat} {a1 : Nat} : am_x 102 [.ref a0, .ref a1] w = am_run 102 0 [some (.ref a0), some (.ref a1)] [] w :=
  congrArg (fun l => am_run 102 0 l [] w) (bnr (ls := am_xp [.ref a0, .ref a1] ++ List.replicate (am_ml 102 - (am_xp [.ref a0, .ref a1]).length) none) (ls' := [some (.ref a0), some (.ref a1)]) bf102_0 rfl)
theorem bx103 {w : am_Wd} {a0 : Nat} : am_x 103 [.ref a0] w = am_run 103 0 [some (.ref a0), none, none] [] w :=
  congrArg (fun l => am_run 103 0 l [] w) (bnr (ls := am_xp [.ref a0] ++ List.replicate (am_ml 103 - (am_xp [.ref a0]).length) none) (ls' := [some (.ref a0), none, none]) bf103_0 rfl)
theorem bx104 {w : am_Wd} {a0 : Nat} : am_x 104 [.ref a0] w = am_run 104 0 [some (.ref a0)] [] w :=
  congrArg (fun l => am_run 104 0 l [] w) (bnr (ls := am_xp [.ref a0] ++ List.replicate (am_ml 104 - (am_xp [.ref a0]).length) none) (ls' := [some (.ref a0)]) bf104_0 rfl)
theorem bx105 {w : am_Wd} {a0 : Nat} : am_x 105 [.ref a0] w = am_run 105 0 [some (.ref a0)] [] w :=
  congrArg (fun l => am_run 105 0 l [] w) (bnr (ls := am_xp [.ref a0] ++ List.replicate (am_ml 105 - (am_xp [.ref a0]).length) none) (ls' := [some (.ref a0)]) bf105_0 rfl)
theorem bx106 {w : am_Wd} {a0 : Nat} : am_x 106 [.ref a0] w = am_run 106 0 [some (.ref a0)] [] w :=
  congrArg (fun l => am_run 106 0 l [] w) (bnr (ls := am_xp [.ref a0] ++ List.replicate (am_ml 106 - (am_xp [.ref a0]).length) none) (ls' := [some (.ref a0)]) bf106_0 rfl)
theorem bx107 {w : am_Wd} {a0 : Int32} {a1 : Int32} : am_x 107 [.int a0, .int a1] w = am_run 107 0 [some (.int a0), some (.int a1)] [] w :=
  congrArg (fun l => am_run 107 0 l [] w) (bnr (ls := am_xp [.int a0, .int a1] ++ List.replicate (am_ml 107 - (am_xp [.int a0, .int a1]).length) none) (ls' := [some (.int a0), some (.int a1)]) bf107_0 rfl)
theorem bx118 {w : am_Wd} {a0 : Nat} : am_x 118 [.ref a0] w = am_run 118 0 [some (.ref a0), none] [] w :=
  congrArg (fun l => am_run 118 0 l [] w) (bnr (ls := am_xp [.ref a0] ++ List.replicate (am_ml 118 - (am_xp [.ref a0]).length) none) (ls' := [some (.ref a0), none]) bf118_0 rfl)
theorem bx119 {w : am_Wd} {a0 : Nat} {a1 : Int32} {a2 : Nat} : am_x 119 [.ref a0, .int a1, .ref a2] w = am_run 119 0 [some (.ref a0), some (.int a1), some (.ref a2), none] [] w :=
  congrArg (fun l => am_run 119 0 l [] w) (bnr (ls := am_xp [.ref a0, .int a1, .ref a2] ++ List.replicate (am_ml 119 - (am_xp [.ref a0, .int a1, .ref a2]).length) none) (ls' := [some (.ref a0), some (.int a1), some (.ref a2), none]) bf119_0 rfl)
theorem bx120 {w : am_Wd} {a0 : Nat} {a1 : Int32} {a2 : Nat} : am_x 120 [.ref a0, .int a1, .ref a2] w = am_run 120 0 [some (.ref a0), some (.int a1), some (.ref a2), none] [] w :=
  congrArg (fun l => am_run 120 0 l [] w) (bnr (ls := am_xp [.ref a0, .int a1, .ref a2] ++ List.replicate (am_ml 120 - (am_xp [.ref a0, .int a1, .ref a2]).length) none) (ls' := [some (.ref a0), some (.int a1), some (.ref a2), none]) bf120_0 rfl)
theorem bx121 {w : am_Wd} {a0 : Nat} {a1 : Int32} {a2 : Nat} : am_x 121 [.ref a0, .int a1, .ref a2] w = am_run 121 0 [some (.ref a0), some (.int a1), some (.ref a2), none, none] [] w :=
  congrArg (fun l => am_run 121 0 l [] w) (bnr (ls := am_xp [.ref a0, .int a1, .ref a2] ++ List.replicate (am_ml 121 - (am_xp [.ref a0, .int a1, .ref a2]).length) none) (ls' := [some (.ref a0), some (.int a1), some (.ref a2), none, none]) bf121_0 rfl)
theorem bx122 {w : am_Wd} {a0 : Nat} {a1 : Int32} {a2 : Nat} : am_x 122 [.ref a0, .int a1, .ref a2] w = am_run 122 0 [some (.ref a0), some (.int a1), some (.ref a2), none, none] [] w :=
  congrArg (fun l => am_run 122 0 l [] w) (bnr (ls := am_xp [.ref a0, .int a1, .ref a2] ++ List.replicate (am_ml 122 - (am_xp [.ref a0, .int a1, .ref a2]).length) none) (ls' := [some (.ref a0), some (.int a1), some (.ref a2), none, none]) bf122_0 rfl)
theorem bx123 {w : am_Wd} {a0 : Nat} {a1 : Int32} {a2 : Int32} {a3 : Int32} {a4 : Int32} : am_x 123 [.ref a0, .int a1, .int a2, .int a3, .int a4] w = am_run 123 0 [some (.ref a0), some (.int a1), some (.int a2), some (.int a3), some (.int a4), none] [] w :=
  congrArg (fun l => am_run 123 0 l [] w) (bnr (ls := am_xp [.ref a0, .int a1, .int a2, .int a3, .int a4] ++ List.replicate (am_ml 123 - (am_xp [.ref a0, .int a1, .int a2, .int a3, .int a4]).length) none) (ls' := [some (.ref a0), some (.int a1), some (.int a2), some (.int a3), some (.int a4), none]) bf123_0 rfl)
theorem bx124 {w : am_Wd} {a0 : Nat} {a1 : Int32} {a2 : Int32} : am_x 124 [.ref a0, .int a1, .int a2] w = am_run 124 0 [some (.ref a0), some (.int a1), some (.int a2), none] [] w :=
  congrArg (fun l => am_run 124 0 l [] w) (bnr (ls := am_xp [.ref a0, .int a1, .int a2] ++ List.replicate (am_ml 124 - (am_xp [.ref a0, .int a1, .int a2]).length) none) (ls' := [some (.ref a0), some (.int a1), some (.int a2), none]) bf124_0 rfl)
theorem bx125 {w : am_Wd} {a0 : Nat} {a1 : Int32} {a2 : Int32} : am_x 125 [.ref a0, .int a1, .int a2] w = am_run 125 0 [some (.ref a0), some (.int a1), some (.int a2), none] [] w :=
  congrArg (fun l => am_run 125 0 l [] w) (bnr (ls := am_xp [.ref a0, .int a1, .int a2] ++ List.replicate (am_ml 125 - (am_xp [.ref a0, .int a1, .int a2]).length) none) (ls' := [some (.ref a0), some (.int a1), some (.int a2), none]) bf125_0 rfl)
theorem bx126 {w : am_Wd} {a0 : Nat} {a1 : Int32} {a2 : Int32} {a3 : Int32} : am_x 126 [.ref a0, .int a1, .int a2, .int a3] w = am_run 126 0 [some (.ref a0), some (.int a1), some (.int a2), some (.int a3), none] [] w :=
  congrArg (fun l => am_run 126 0 l [] w) (bnr (ls := am_xp [.ref a0, .int a1, .int a2, .int a3] ++ List.replicate (am_ml 126 - (am_xp [.ref a0, .int a1, .int a2, .int a3]).length) none) (ls' := [some (.ref a0), some (.int a1), some (.int a2), some (.int a3), none]) bf126_0 rfl)
theorem bx127 {w : am_Wd} {a0 : Nat} {a1 : Int32} {a2 : Int32} {a3 : Int32} {a4 : Int32} : am_x 127 [.ref a0, .int a1, .int a2, .int a3, .int a4] w = am_run 127 0 [some (.ref a0), some (.int a1), some (.int a2), some (.int a3), some (.int a4)] [] w :=
  congrArg (fun l => am_run 127 0 l [] w) (bnr (ls := am_xp [.ref a0, .int a1, .int a2, .int a3, .int a4] ++ List.replicate (am_ml 127 - (am_xp [.ref a0, .int a1, .int a2, .int a3, .int a4]).length) none) (ls' := [some (.ref a0), some (.int a1), some (.int a2), some (.int a3), some (.int a4)]) bf127_0 rfl)
theorem bx128 {w : am_Wd} {a0 : Nat} : am_x 128 [.ref a0] w = am_run 128 0 [some (.ref a0)] [] w :=
  congrArg (fun l => am_run 128 0 l [] w) (bnr (ls := am_xp [.ref a0] ++ List.replicate (am_ml 128 - (am_xp [.ref a0]).length) none) (ls' := [some (.ref a0)]) bf128_0 rfl)
theorem bx129 {w : am_Wd} {a0 : Nat} : am_x 129 [.ref a0] w = am_run 129 0 [some (.ref a0)] [] w :=
  congrArg (fun l => am_run 129 0 l [] w) (bnr (ls := am_xp [.ref a0] ++ List.replicate (am_ml 129 - (am_xp [.ref a0]).length) none) (ls' := [some (.ref a0)]) bf129_0 rfl)
theorem bx130 {w : am_Wd} {a0 : Nat} : am_x 130 [.ref a0] w = am_run 130 0 [some (.ref a0), none] [] w :=
  congrArg (fun l => am_run 130 0 l [] w) (bnr (ls := am_xp [.ref a0] ++ List.replicate (am_ml 130 - (am_xp [.ref a0]).length) none) (ls' := [some (.ref a0), none]) bf130_0 rfl)
theorem bx131 {w : am_Wd} {a0 : Nat} {a1 : Nat} : am_x 131 [.ref a0, .ref a1] w = am_run 131 0 [some (.ref a0), some (.ref a1), none, none, none, none] [] w :=
  congrArg (fun l => am_run 131 0 l [] w) (bnr (ls := am_xp [.ref a0, .ref a1] ++ List.replicate (am_ml 131 - (am_xp [.ref a0, .ref a1]).length) none) (ls' := [some (.ref a0), some (.ref a1), none, none, none, none]) bf131_0 rfl)
theorem bx132 {w : am_Wd} {a0 : Nat} {a1 : Int32} : am_x 132 [.ref a0, .int a1] w = am_run 132 0 [some (.ref a0), some (.int a1), none, none, none, none, none, none] [] w :=
  congrArg (fun l => am_run 132 0 l [] w) (bnr (ls := am_xp [.ref a0, .int a1] ++ List.replicate (am_ml 132 - (am_xp [.ref a0, .int a1]).length) none) (ls' := [some (.ref a0), some (.int a1), none, none, none, none, none, none]) bf132_0 rfl)
theorem bx133 {w : am_Wd} {a0 : Nat} {a1 : Int32} {a2 : Int32} : am_x 133 [.ref a0, .int a1, .int a2] w = am_run 133 0 [some (.ref a0), some (.int a1), some (.int a2), none, none] [] w :=
  congrArg (fun l => am_run 133 0 l [] w) (bnr (ls := am_xp [.ref a0, .int a1, .int a2] ++ List.replicate (am_ml 133 - (am_xp [.ref a0, .int a1, .int a2]).length) none) (ls' := [some (.ref a0), some (.int a1), some (.int a2), none, none]) bf133_0 rfl)
theorem bx134 {w : am_Wd} {a0 : Nat} {a1 : Int32} : am_x 134 [.ref a0, .int a1] w = am_run 134 0 [some (.ref a0), some (.int a1), none, none] [] w :=
  congrArg (fun l => am_run 134 0 l [] w) (bnr (ls := am_xp [.ref a0, .int a1] ++ List.replicate (am_ml 134 - (am_xp [.ref a0, .int a1]).length) none) (ls' := [some (.ref a0), some (.int a1), none, none]) bf134_0 rfl)
theorem bx135 {w : am_Wd} {a0 : Nat} {a1 : Int32} : am_x 135 [.ref a0, .int a1] w = am_run 135 0 [some (.ref a0), some (.int a1)] [] w :=
  congrArg (fun l => am_run 135 0 l [] w) (bnr (ls := am_xp [.ref a0, .int a1] ++ List.replicate (am_ml 135 - (am_xp [.ref a0, .int a1]).length) none) (ls' := [some (.ref a0), some (.int a1)]) bf135_0 rfl)
theorem bx136 {w : am_Wd} {a0 : Nat} {a1 : Int32} : am_x 136 [.ref a0, .int a1] w = am_run 136 0 [some (.ref a0), some (.int a1)] [] w :=
  congrArg (fun l => am_run 136 0 l [] w) (bnr (ls := am_xp [.ref a0, .int a1] ++ List.replicate (am_ml 136 - (am_xp [.ref a0, .int a1]).length) none) (ls' := [some (.ref a0), some (.int a1)]) bf136_0 rfl)
theorem bx137 {w : am_Wd} {a0 : Nat} {a1 : Int32} {a2 : Int32} {a3 : Int32} : am_x 137 [.ref a0, .int a1, .int a2, .int a3] w = am_run 137 0 [some (.ref a0), some (.int a1), some (.int a2), some (.int a3), none] [] w :=
  congrArg (fun l => am_run 137 0 l [] w) (bnr (ls := am_xp [.ref a0, .int a1, .int a2, .int a3] ++ List.replicate (am_ml 137 - (am_xp [.ref a0, .int a1, .int a2, .int a3]).length) none) (ls' := [some (.ref a0), some (.int a1), some (.int a2), some (.int a3), none]) bf137_0 rfl)
theorem bx138 {w : am_Wd} {a0 : Nat} {a1 : Int32} {a2 : Int32} : am_x 138 [.ref a0, .int a1, .int a2] w = am_run 138 0 [some (.ref a0), some (.int a1), some (.int a2), none] [] w :=
  congrArg (fun l => am_run 138 0 l [] w) (bnr (ls := am_xp [.ref a0, .int a1, .int a2] ++ List.replicate (am_ml 138 - (am_xp [.ref a0, .int a1, .int a2]).length) none) (ls' := [some (.ref a0), some (.int a1), some (.int a2), none]) bf138_0 rfl)
theorem bx139 {w : am_Wd} {a0 : Nat} {a1 : Int32} {a2 : Int32} : am_x 139 [.ref a0, .int a1, .int a2] w = am_run 139 0 [some (.ref a0), some (.int a1), some (.int a2), none] [] w :=
  congrArg (fun l => am_run 139 0 l [] w) (bnr (ls := am_xp [.ref a0, .int a1, .int a2] ++ List.replicate (am_ml 139 - (am_xp [.ref a0, .int a1, .int a2]).length) none) (ls' := [some (.ref a0), some (.int a1), some (.int a2), none]) bf139_0 rfl)
theorem bx140 {w : am_Wd} {a0 : Nat} {a1 : Int32} {a2 : Int32} {a3 : Int32} : am_x 140 [.ref a0, .int a1, .int a2, .int a3] w = am_run 140 0 [some (.ref a0), some (.int a1), some (.int a2), some (.int a3), none] [] w :=
  congrArg (fun l => am_run 140 0 l [] w) (bnr (ls := am_xp [.ref a0, .int a1, .int a2, .int a3] ++ List.replicate (am_ml 140 - (am_xp [.ref a0, .int a1, .int a2, .int a3]).length) none) (ls' := [some (.ref a0), some (.int a1), some (.int a2), some (.int a3), none]) bf140_0 rfl)
theorem bx141 {w : am_Wd} {a0 : Nat} {a1 : Nat} : am_x 141 [.ref a0, .ref a1] w = am_run 141 0 [some (.ref a0), some (.ref a1)] [] w :=
  congrArg (fun l => am_run 141 0 l [] w) (bnr (ls := am_xp [.ref a0, .ref a1] ++ List.replicate (am_ml 141 - (am_xp [.ref a0, .ref a1]).length) none) (ls' := [some (.ref a0), some (.ref a1)]) bf141_0 rfl)
theorem bx142 {w : am_Wd} {a0 : Int32} {a1 : Int32} : am_x 142 [.int a0, .int a1] w = am_run 142 0 [some (.int a0), some (.int a1)] [] w :=
  congrArg (fun l => am_run 142 0 l [] w) (bnr (ls := am_xp [.int a0, .int a1] ++ List.replicate (am_ml 142 - (am_xp [.int a0, .int a1]).length) none) (ls' := [some (.int a0), some (.int a1)]) bf142_0 rfl)
theorem bx143 {w : am_Wd} {a0 : Int32} {a1 : Int32} : am_x 143 [.int a0, .int a1] w = am_run 143 0 [some (.int a0), some (.int a1)] [] w :=
  congrArg (fun l => am_run 143 0 l [] w) (bnr (ls := am_xp [.int a0, .int a1] ++ List.replicate (am_ml 143 - (am_xp [.int a0, .int a1]).length) none) (ls' := [some (.int a0), some (.int a1)]) bf143_0 rfl)
theorem bx144 {w : am_Wd} {a0 : Nat} {a1 : Int32} {a2 : Int32} {a3 : Int32} : am_x 144 [.ref a0, .int a1, .int a2, .int a3] w = am_run 144 0 [some (.ref a0), some (.int a1), some (.int a2), some (.int a3)] [] w :=
  congrArg (fun l => am_run 144 0 l [] w) (bnr (ls := am_xp [.ref a0, .int a1, .int a2, .int a3] ++ List.replicate (am_ml 144 - (am_xp [.ref a0, .int a1, .int a2, .int a3]).length) none) (ls' := [some (.ref a0), some (.int a1), some (.int a2), some (.int a3)]) bf144_0 rfl)
theorem bx145 {w : am_Wd} {a0 : Nat} {a1 : Int32} : am_x 145 [.ref a0, .int a1] w = am_run 145 0 [some (.ref a0), some (.int a1)] [] w :=
  congrArg (fun l => am_run 145 0 l [] w) (bnr (ls := am_xp [.ref a0, .int a1] ++ List.replicate (am_ml 145 - (am_xp [.ref a0, .int a1]).length) none) (ls' := [some (.ref a0), some (.int a1)]) bf145_0 rfl)
theorem bx146 {w : am_Wd} {a0 : Nat} {a1 : Nat} {a2 : Int32} : am_x 146 [.ref a0, .ref a1, .int a2] w = am_run 146 0 [some (.ref a0), some (.ref a1), some (.int a2), none, none, none, none, none, none] [] w :=
  congrArg (fun l => am_run 146 0 l [] w) (bnr (ls := am_xp [.ref a0, .ref a1, .int a2] ++ List.replicate (am_ml 146 - (am_xp [.ref a0, .ref a1, .int a2]).length) none) (ls' := [some (.ref a0), some (.ref a1), some (.int a2), none, none, none, none, none, none]) bf146_0 rfl)
theorem bx147 {w : am_Wd} {a0 : Nat} {a1 : Int32} {a2 : Int32} {a3 : Int32} {a4 : Nat} : am_x 147 [.ref a0, .int a1, .int a2, .int a3, .ref a4] w = am_run 147 0 [some (.ref a0), some (.int a1), some (.int a2), some (.int a3), some (.ref a4), none] [] w :=
  congrArg (fun l => am_run 147 0 l [] w) (bnr (ls := am_xp [.ref a0, .int a1, .int a2, .int a3, .ref a4] ++ List.replicate (am_ml 147 - (am_xp [.ref a0, .int a1, .int a2, .int a3, .ref a4]).length) none) (ls' := [some (.ref a0), some (.int a1), some (.int a2), some (.int a3), some (.ref a4), none]) bf147_0 rfl)
theorem bx148 {w : am_Wd} {a0 : Nat} {a1 : Int32} {a2 : Nat} : am_x 148 [.ref a0, .int a1, .ref a2] w = am_run 148 0 [some (.ref a0), some (.int a1), some (.ref a2), none] [] w :=
  congrArg (fun l => am_run 148 0 l [] w) (bnr (ls := am_xp [.ref a0, .int a1, .ref a2] ++ List.replicate (am_ml 148 - (am_xp [.ref a0, .int a1, .ref a2]).length) none) (ls' := [some (.ref a0), some (.int a1), some (.ref a2), none]) bf148_0 rfl)
theorem bx149 {w : am_Wd} {a0 : Nat} {a1 : Nat} {a2 : Nat} {a3 : Int32} : am_x 149 [.ref a0, .ref a1, .ref a2, .int a3] w = am_run 149 0 [some (.ref a0), some (.ref a1), some (.ref a2), some (.int a3)] [] w :=
  congrArg (fun l => am_run 149 0 l [] w) (bnr (ls := am_xp [.ref a0, .ref a1, .ref a2, .int a3] ++ List.replicate (am_ml 149 - (am_xp [.ref a0, .ref a1, .ref a2, .int a3]).length) none) (ls' := [some (.ref a0), some (.ref a1), some (.ref a2), some (.int a3)]) bf149_0 rfl)
theorem bx150 {w : am_Wd} {a0 : Nat} {a1 : Int32} : am_x 150 [.ref a0, .int a1] w = am_run 150 0 [some (.ref a0), some (.int a1)] [] w :=
  congrArg (fun l => am_run 150 0 l [] w) (bnr (ls := am_xp [.ref a0, .int a1] ++ List.replicate (am_ml 150 - (am_xp [.ref a0, .int a1]).length) none) (ls' := [some (.ref a0), some (.int a1)]) bf150_0 rfl)
theorem bx151 {w : am_Wd} {a0 : Nat} : am_x 151 [.ref a0] w = am_run 151 0 [some (.ref a0)] [] w :=
  congrArg (fun l => am_run 151 0 l [] w) (bnr (ls := am_xp [.ref a0] ++ List.replicate (am_ml 151 - (am_xp [.ref a0]).length) none) (ls' := [some (.ref a0)]) bf151_0 rfl)
theorem bx157 {w : am_Wd} {a0 : Nat} {a1 : Int32} : am_x 157 [.ref a0, .int a1] w = am_run 157 0 [some (.ref a0), some (.int a1), none, none, none] [] w :=
  congrArg (fun l => am_run 157 0 l [] w) (bnr (ls := am_xp [.ref a0, .int a1] ++ List.replicate (am_ml 157 - (am_xp [.ref a0, .int a1]).length) none) (ls' := [some (.ref a0), some (.int a1), none, none, none]) bf157_0 rfl)
theorem bx158 {w : am_Wd} {a0 : Nat} {a1 : Int32} {a2 : Int32} {a3 : Int32} : am_x 158 [.ref a0, .int a1, .int a2, .int a3] w = am_run 158 0 [some (.ref a0), some (.int a1), some (.int a2), some (.int a3), none, none] [] w :=
  congrArg (fun l => am_run 158 0 l [] w) (bnr (ls := am_xp [.ref a0, .int a1, .int a2, .int a3] ++ List.replicate (am_ml 158 - (am_xp [.ref a0, .int a1, .int a2, .int a3]).length) none) (ls' := [some (.ref a0), some (.int a1), some (.int a2), some (.int a3), none, none]) bf158_0 rfl)
theorem bx159 {w : am_Wd} {a0 : Nat} {a1 : Nat} {a2 : Int32} {a3 : Int32} : am_x 159 [.ref a0, .ref a1, .int a2, .int a3] w = am_run 159 0 [some (.ref a0), some (.ref a1), some (.int a2), some (.int a3), none, none, none, none, none] [] w :=
  congrArg (fun l => am_run 159 0 l [] w) (bnr (ls := am_xp [.ref a0, .ref a1, .int a2, .int a3] ++ List.replicate (am_ml 159 - (am_xp [.ref a0, .ref a1, .int a2, .int a3]).length) none) (ls' := [some (.ref a0), some (.ref a1), some (.int a2), some (.int a3), none, none, none, none, none]) bf159_0 rfl)
theorem bx160 {w : am_Wd} {a0 : Nat} {a1 : Int32} : am_x 160 [.ref a0, .int a1] w = am_run 160 0 [some (.ref a0), some (.int a1), none] [] w :=
  congrArg (fun l => am_run 160 0 l [] w) (bnr (ls := am_xp [.ref a0, .int a1] ++ List.replicate (am_ml 160 - (am_xp [.ref a0, .int a1]).length) none) (ls' := [some (.ref a0), some (.int a1), none]) bf160_0 rfl)
theorem bx161 {w : am_Wd} {a0 : Nat} {a1 : Int32} : am_x 161 [.ref a0, .int a1] w = am_run 161 0 [some (.ref a0), some (.int a1), none, none] [] w :=
  congrArg (fun l => am_run 161 0 l [] w) (bnr (ls := am_xp [.ref a0, .int a1] ++ List.replicate (am_ml 161 - (am_xp [.ref a0, .int a1]).length) none) (ls' := [some (.ref a0), some (.int a1), none, none]) bf161_0 rfl)
theorem bx162 {w : am_Wd} {a0 : Nat} : am_x 162 [.ref a0] w = am_run 162 0 [some (.ref a0), none] [] w :=
  congrArg (fun l => am_run 162 0 l [] w) (bnr (ls := am_xp [.ref a0] ++ List.replicate (am_ml 162 - (am_xp [.ref a0]).length) none) (ls' := [some (.ref a0), none]) bf162_0 rfl)
theorem bx163 {w : am_Wd} {a0 : Nat} : am_x 163 [.ref a0] w = am_run 163 0 [some (.ref a0), none] [] w :=
  congrArg (fun l => am_run 163 0 l [] w) (bnr (ls := am_xp [.ref a0] ++ List.replicate (am_ml 163 - (am_xp [.ref a0]).length) none) (ls' := [some (.ref a0), none]) bf163_0 rfl)
theorem bx164 {w : am_Wd} {a0 : Nat} {a1 : Int32} : am_x 164 [.ref a0, .int a1] w = am_run 164 0 [some (.ref a0), some (.int a1), none, none] [] w :=
  congrArg (fun l => am_run 164 0 l [] w) (bnr (ls := am_xp [.ref a0, .int a1] ++ List.replicate (am_ml 164 - (am_xp [.ref a0, .int a1]).length) none) (ls' := [some (.ref a0), some (.int a1), none, none]) bf164_0 rfl)
theorem bx165 {w : am_Wd} {a0 : Nat} {a1 : Int32} : am_x 165 [.ref a0, .int a1] w = am_run 165 0 [some (.ref a0), some (.int a1)] [] w :=
  congrArg (fun l => am_run 165 0 l [] w) (bnr (ls := am_xp [.ref a0, .int a1] ++ List.replicate (am_ml 165 - (am_xp [.ref a0, .int a1]).length) none) (ls' := [some (.ref a0), some (.int a1)]) bf165_0 rfl)
theorem bx166 {w : am_Wd} {a0 : Nat} {a1 : Int32} {a2 : Int32} {a3 : Int32} {a4 : Int32} : am_x 166 [.ref a0, .int a1, .int a2, .int a3, .int a4] w = am_run 166 0 [some (.ref a0), some (.int a1), some (.int a2), some (.int a3), some (.int a4), none] [] w :=
  congrArg (fun l => am_run 166 0 l [] w) (bnr (ls := am_xp [.ref a0, .int a1, .int a2, .int a3, .int a4] ++ List.replicate (am_ml 166 - (am_xp [.ref a0, .int a1, .int a2, .int a3, .int a4]).length) none) (ls' := [some (.ref a0), some (.int a1), some (.int a2), some (.int a3), some (.int a4), none]) bf166_0 rfl)
theorem bx167 {w : am_Wd} {a0 : Nat} {a1 : Int32} {a2 : Int32} {a3 : Int32} {a4 : Int32} : am_x 167 [.ref a0, .int a1, .int a2, .int a3, .int a4] w = am_run 167 0 [some (.ref a0), some (.int a1), some (.int a2), some (.int a3), some (.int a4), none] [] w :=
  congrArg (fun l => am_run 167 0 l [] w) (bnr (ls := am_xp [.ref a0, .int a1, .int a2, .int a3, .int a4] ++ List.replicate (am_ml 167 - (am_xp [.ref a0, .int a1, .int a2, .int a3, .int a4]).length) none) (ls' := [some (.ref a0), some (.int a1), some (.int a2), some (.int a3), some (.int a4), none]) bf167_0 rfl)
theorem bx168 {w : am_Wd} {a0 : Nat} {a1 : Int32} {a2 : Int32} : am_x 168 [.ref a0, .int a1, .int a2] w = am_run 168 0 [some (.ref a0), some (.int a1), some (.int a2), none, none] [] w :=
  congrArg (fun l => am_run 168 0 l [] w) (bnr (ls := am_xp [.ref a0, .int a1, .int a2] ++ List.replicate (am_ml 168 - (am_xp [.ref a0, .int a1, .int a2]).length) none) (ls' := [some (.ref a0), some (.int a1), some (.int a2), none, none]) bf168_0 rfl)
theorem bx169 {w : am_Wd} {a0 : Nat} {a1 : Int32} {a2 : Int32} {a3 : Int32} : am_x 169 [.ref a0, .int a1, .int a2, .int a3] w = am_run 169 0 [some (.ref a0), some (.int a1), some (.int a2), some (.int a3)] [] w :=
  congrArg (fun l => am_run 169 0 l [] w) (bnr (ls := am_xp [.ref a0, .int a1, .int a2, .int a3] ++ List.replicate (am_ml 169 - (am_xp [.ref a0, .int a1, .int a2, .int a3]).length) none) (ls' := [some (.ref a0), some (.int a1), some (.int a2), some (.int a3)]) bf169_0 rfl)
theorem bx170 {w : am_Wd} {a0 : Nat} {a1 : Int32} {a2 : Int32} : am_x 170 [.ref a0, .int a1, .int a2] w = am_run 170 0 [some (.ref a0), some (.int a1), some (.int a2), none] [] w :=
  congrArg (fun l => am_run 170 0 l [] w) (bnr (ls := am_xp [.ref a0, .int a1, .int a2] ++ List.replicate (am_ml 170 - (am_xp [.ref a0, .int a1, .int a2]).length) none) (ls' := [some (.ref a0), some (.int a1), some (.int a2), none]) bf170_0 rfl)
theorem bx171 {w : am_Wd} {a0 : Nat} {a1 : Nat} : am_x 171 [.ref a0, .ref a1] w = am_run 171 0 [some (.ref a0), some (.ref a1), none, none] [] w :=
  congrArg (fun l => am_run 171 0 l [] w) (bnr (ls := am_xp [.ref a0, .ref a1] ++ List.replicate (am_ml 171 - (am_xp [.ref a0, .ref a1]).length) none) (ls' := [some (.ref a0), some (.ref a1), none, none]) bf171_0 rfl)
theorem bx172 {w : am_Wd} {a0 : Nat} : am_x 172 [.ref a0] w = am_run 172 0 [some (.ref a0)] [] w :=
  congrArg (fun l => am_run 172 0 l [] w) (bnr (ls := am_xp [.ref a0] ++ List.replicate (am_ml 172 - (am_xp [.ref a0]).length) none) (ls' := [some (.ref a0)]) bf172_0 rfl)
theorem bx173 {w : am_Wd} {a0 : Nat} {a1 : Int32} {a2 : Int32} : am_x 173 [.ref a0, .int a1, .int a2] w = am_run 173 0 [some (.ref a0), some (.int a1), some (.int a2)] [] w :=
  congrArg (fun l => am_run 173 0 l [] w) (bnr (ls := am_xp [.ref a0, .int a1, .int a2] ++ List.replicate (am_ml 173 - (am_xp [.ref a0, .int a1, .int a2]).length) none) (ls' := [some (.ref a0), some (.int a1), some (.int a2)]) bf173_0 rfl)
theorem bx174 {w : am_Wd} {a0 : Nat} {a1 : Int32} {a2 : Int32} : am_x 174 [.ref a0, .int a1, .int a2] w = am_run 174 0 [some (.ref a0), some (.int a1), some (.int a2)] [] w :=
  congrArg (fun l => am_run 174 0 l [] w) (bnr (ls := am_xp [.ref a0, .int a1, .int a2] ++ List.replicate (am_ml 174 - (am_xp [.ref a0, .int a1, .int a2]).length) none) (ls' := [some (.ref a0), some (.int a1), some (.int a2)]) bf174_0 rfl)
theorem bx175 {w : am_Wd} {a0 : Nat} {a1 : Int32} {a2 : Int32} {a3 : Int32} : am_x 175 [.ref a0, .int a1, .int a2, .int a3] w = am_run 175 0 [some (.ref a0), some (.int a1), some (.int a2), some (.int a3)] [] w :=
  congrArg (fun l => am_run 175 0 l [] w) (bnr (ls := am_xp [.ref a0, .int a1, .int a2, .int a3] ++ List.replicate (am_ml 175 - (am_xp [.ref a0, .int a1, .int a2, .int a3]).length) none) (ls' := [some (.ref a0), some (.int a1), some (.int a2), some (.int a3)]) bf175_0 rfl)
theorem bx176 {w : am_Wd} {a0 : Nat} {a1 : Int32} {a2 : Int32} {a3 : Int32} {a4 : Int32} : am_x 176 [.ref a0, .int a1, .int a2, .int a3, .int a4] w = am_run 176 0 [some (.ref a0), some (.int a1), some (.int a2), some (.int a3), some (.int a4), none, none] [] w :=
  congrArg (fun l => am_run 176 0 l [] w) (bnr (ls := am_xp [.ref a0, .int a1, .int a2, .int a3, .int a4] ++ List.replicate (am_ml 176 - (am_xp [.ref a0, .int a1, .int a2, .int a3, .int a4]).length) none) (ls' := [some (.ref a0), some (.int a1), some (.int a2), some (.int a3), some (.int a4), none, none]) bf176_0 rfl)
theorem bx177 {w : am_Wd} {a0 : Nat} {a1 : Int32} : am_x 177 [.ref a0, .int a1] w = am_run 177 0 [some (.ref a0), some (.int a1), none, none, none] [] w :=
  congrArg (fun l => am_run 177 0 l [] w) (bnr (ls := am_xp [.ref a0, .int a1] ++ List.replicate (am_ml 177 - (am_xp [.ref a0, .int a1]).length) none) (ls' := [some (.ref a0), some (.int a1), none, none, none]) bf177_0 rfl)
theorem bx178 {w : am_Wd} {a0 : Nat} {a1 : Int32} {a2 : Int32} : am_x 178 [.ref a0, .int a1, .int a2] w = am_run 178 0 [some (.ref a0), some (.int a1), some (.int a2), none] [] w :=
  congrArg (fun l => am_run 178 0 l [] w) (bnr (ls := am_xp [.ref a0, .int a1, .int a2] ++ List.replicate (am_ml 178 - (am_xp [.ref a0, .int a1, .int a2]).length) none) (ls' := [some (.ref a0), some (.int a1), some (.int a2), none]) bf178_0 rfl)
theorem bx179 {w : am_Wd} {a0 : Nat} {a1 : Int32} : am_x 179 [.ref a0, .int a1] w = am_run 179 0 [some (.ref a0), some (.int a1), none, none] [] w :=
  congrArg (fun l => am_run 179 0 l [] w) (bnr (ls := am_xp [.ref a0, .int a1] ++ List.replicate (am_ml 179 - (am_xp [.ref a0, .int a1]).length) none) (ls' := [some (.ref a0), some (.int a1), none, none]) bf179_0 rfl)
theorem bx180 {w : am_Wd} {a0 : Nat} {a1 : Int32} {a2 : Int32} : am_x 180 [.ref a0, .int a1, .int a2] w = am_run 180 0 [some (.ref a0), some (.int a1), some (.int a2), none, none, none, none, none, none, none] [] w :=
  congrArg (fun l => am_run 180 0 l [] w) (bnr (ls := am_xp [.ref a0, .int a1, .int a2] ++ List.replicate (am_ml 180 - (am_xp [.ref a0, .int a1, .int a2]).length) none) (ls' := [some (.ref a0), some (.int a1), some (.int a2), none, none, none, none, none, none, none]) bf180_0 rfl)
theorem bx181 {w : am_Wd} {a0 : Nat} {a1 : Int32} {a2 : Int32} {a3 : Int32} : am_x 181 [.ref a0, .int a1, .int a2, .int a3] w = am_run 181 0 [some (.ref a0), some (.int a1), some (.int a2), some (.int a3), none, none] [] w :=
  congrArg (fun l => am_run 181 0 l [] w) (bnr (ls := am_xp [.ref a0, .int a1, .int a2, .int a3] ++ List.replicate (am_ml 181 - (am_xp [.ref a0, .int a1, .int a2, .int a3]).length) none) (ls' := [some (.ref a0), some (.int a1), some (.int a2), some (.int a3), none, none]) bf181_0 rfl)
theorem bx182 {w : am_Wd} {a0 : Nat} {a1 : Int32} {a2 : Int32} : am_x 182 [.ref a0, .int a1, .int a2] w = am_run 182 0 [some (.ref a0), some (.int a1), some (.int a2)] [] w :=
  congrArg (fun l => am_run 182 0 l [] w) (bnr (ls := am_xp [.ref a0, .int a1, .int a2] ++ List.replicate (am_ml 182 - (am_xp [.ref a0, .int a1, .int a2]).length) none) (ls' := [some (.ref a0), some (.int a1), some (.int a2)]) bf182_0 rfl)
theorem bx183 {w : am_Wd} {a0 : Nat} {a1 : Int32} {a2 : Int32} : am_x 183 [.ref a0, .int a1, .int a2] w = am_run 183 0 [some (.ref a0), some (.int a1), some (.int a2)] [] w :=
  congrArg (fun l => am_run 183 0 l [] w) (bnr (ls := am_xp [.ref a0, .int a1, .int a2] ++ List.replicate (am_ml 183 - (am_xp [.ref a0, .int a1, .int a2]).length) none) (ls' := [some (.ref a0), some (.int a1), some (.int a2)]) bf183_0 rfl)
theorem bx184 {w : am_Wd} {a0 : Nat} {a1 : Int32} {a2 : Int32} : am_x 184 [.ref a0, .int a1, .int a2] w = am_run 184 0 [some (.ref a0), some (.int a1), some (.int a2)] [] w :=
  congrArg (fun l => am_run 184 0 l [] w) (bnr (ls := am_xp [.ref a0, .int a1, .int a2] ++ List.replicate (am_ml 184 - (am_xp [.ref a0, .int a1, .int a2]).length) none) (ls' := [some (.ref a0), some (.int a1), some (.int a2)]) bf184_0 rfl)
theorem bx185 {w : am_Wd} {a0 : Nat} {a1 : Int32} : am_x 185 [.ref a0, .int a1] w = am_run 185 0 [some (.ref a0), some (.int a1)] [] w :=
  congrArg (fun l => am_run 185 0 l [] w) (bnr (ls := am_xp [.ref a0, .int a1] ++ List.replicate (am_ml 185 - (am_xp [.ref a0, .int a1]).length) none) (ls' := [some (.ref a0), some (.int a1)]) bf185_0 rfl)
theorem bx186 {w : am_Wd} {a0 : Nat} : am_x 186 [.ref a0] w = am_run 186 0 [some (.ref a0), none, none, none] [] w :=
  congrArg (fun l => am_run 186 0 l [] w) (bnr (ls := am_xp [.ref a0] ++ List.replicate (am_ml 186 - (am_xp [.ref a0]).length) none) (ls' := [some (.ref a0), none, none, none]) bf186_0 rfl)
theorem bx187 {w : am_Wd} {a0 : Nat} {a1 : Int32} {a2 : Int32} {a3 : Nat} : am_x 187 [.ref a0, .int a1, .int a2, .ref a3] w = am_run 187 0 [some (.ref a0), some (.int a1), some (.int a2), some (.ref a3), none] [] w :=
  congrArg (fun l => am_run 187 0 l [] w) (bnr (ls := am_xp [.ref a0, .int a1, .int a2, .ref a3] ++ List.replicate (am_ml 187 - (am_xp [.ref a0, .int a1, .int a2, .ref a3]).length) none) (ls' := [some (.ref a0), some (.int a1), some (.int a2), some (.ref a3), none]) bf187_0 rfl)
theorem bx188 {w : am_Wd} {a0 : Nat} {a1 : Int32} {a2 : Nat} : am_x 188 [.ref a0, .int a1, .ref a2] w = am_run 188 0 [some (.ref a0), some (.int a1), some (.ref a2), none] [] w :=
  congrArg (fun l => am_run 188 0 l [] w) (bnr (ls := am_xp [.ref a0, .int a1, .ref a2] ++ List.replicate (am_ml 188 - (am_xp [.ref a0, .int a1, .ref a2]).length) none) (ls' := [some (.ref a0), some (.int a1), some (.ref a2), none]) bf188_0 rfl)
theorem bx189 {w : am_Wd} {a0 : Nat} {a1 : Int32} {a2 : Nat} : am_x 189 [.ref a0, .int a1, .ref a2] w = am_run 189 0 [some (.ref a0), some (.int a1), some (.ref a2), none] [] w :=
  congrArg (fun l => am_run 189 0 l [] w) (bnr (ls := am_xp [.ref a0, .int a1, .ref a2] ++ List.replicate (am_ml 189 - (am_xp [.ref a0, .int a1, .ref a2]).length) none) (ls' := [some (.ref a0), some (.int a1), some (.ref a2), none]) bf189_0 rfl)
theorem bx190 {w : am_Wd} {a0 : Nat} {a1 : Int32} {a2 : Nat} : am_x 190 [.ref a0, .int a1, .ref a2] w = am_run 190 0 [some (.ref a0), some (.int a1), some (.ref a2), none] [] w :=
  congrArg (fun l => am_run 190 0 l [] w) (bnr (ls := am_xp [.ref a0, .int a1, .ref a2] ++ List.replicate (am_ml 190 - (am_xp [.ref a0, .int a1, .ref a2]).length) none) (ls' := [some (.ref a0), some (.int a1), some (.ref a2), none]) bf190_0 rfl)
theorem bx191 {w : am_Wd} {a0 : Nat} {a1 : Int32} {a2 : Int32} {a3 : Int32} {a4 : Nat} : am_x 191 [.ref a0, .int a1, .int a2, .int a3, .ref a4] w = am_run 191 0 [some (.ref a0), some (.int a1), some (.int a2), some (.int a3), some (.ref a4), none] [] w :=
  congrArg (fun l => am_run 191 0 l [] w) (bnr (ls := am_xp [.ref a0, .int a1, .int a2, .int a3, .ref a4] ++ List.replicate (am_ml 191 - (am_xp [.ref a0, .int a1, .int a2, .int a3, .ref a4]).length) none) (ls' := [some (.ref a0), some (.int a1), some (.int a2), some (.int a3), some (.ref a4), none]) bf191_0 rfl)
theorem bx192 {w : am_Wd} {a0 : Nat} {a1 : Int32} {a2 : Int32} {a3 : Nat} : am_x 192 [.ref a0, .int a1, .int a2, .ref a3] w = am_run 192 0 [some (.ref a0), some (.int a1), some (.int a2), some (.ref a3), none] [] w :=
  congrArg (fun l => am_run 192 0 l [] w) (bnr (ls := am_xp [.ref a0, .int a1, .int a2, .ref a3] ++ List.replicate (am_ml 192 - (am_xp [.ref a0, .int a1, .int a2, .ref a3]).length) none) (ls' := [some (.ref a0), some (.int a1), some (.int a2), some (.ref a3), none]) bf192_0 rfl)
theorem bx193 {w : am_Wd} {a0 : Nat} {a1 : Int32} {a2 : Int32} {a3 : Nat} : am_x 193 [.ref a0, .int a1, .int a2, .ref a3] w = am_run 193 0 [some (.ref a0), some (.int a1), some (.int a2), some (.ref a3), none] [] w :=
  congrArg (fun l => am_run 193 0 l [] w) (bnr (ls := am_xp [.ref a0, .int a1, .int a2, .ref a3] ++ List.replicate (am_ml 193 - (am_xp [.ref a0, .int a1, .int a2, .ref a3]).length) none) (ls' := [some (.ref a0), some (.int a1), some (.int a2), some (.ref a3), none]) bf193_0 rfl)
theorem bx194 {w : am_Wd} {a0 : Nat} {a1 : Int32} {a2 : Int32} {a3 : Int32} {a4 : Nat} : am_x 194 [.ref a0, .int a1, .int a2, .int a3, .ref a4] w = am_run 194 0 [some (.ref a0), some (.int a1), some (.int a2), some (.int a3), some (.ref a4), none] [] w :=
  congrArg (fun l => am_run 194 0 l [] w) (bnr (ls := am_xp [.ref a0, .int a1, .int a2, .int a3, .ref a4] ++ List.replicate (am_ml 194 - (am_xp [.ref a0, .int a1, .int a2, .int a3, .ref a4]).length) none) (ls' := [some (.ref a0), some (.int a1), some (.int a2), some (.int a3), some (.ref a4), none]) bf194_0 rfl)
theorem bx195 {w : am_Wd} {a0 : Nat} {a1 : Nat} : am_x 195 [.ref a0, .ref a1] w = am_run 195 0 [some (.ref a0), some (.ref a1)] [] w :=
  congrArg (fun l => am_run 195 0 l [] w) (bnr (ls := am_xp [.ref a0, .ref a1] ++ List.replicate (am_ml 195 - (am_xp [.ref a0, .ref a1]).length) none) (ls' := [some (.ref a0), some (.ref a1)]) bf195_0 rfl)
theorem bx199 {w : am_Wd} {a0 : Nat} : am_x 199 [.ref a0] w = am_run 199 0 [some (.ref a0), none] [] w :=
  congrArg (fun l => am_run 199 0 l [] w) (bnr (ls := am_xp [.ref a0] ++ List.replicate (am_ml 199 - (am_xp [.ref a0]).length) none) (ls' := [some (.ref a0), none]) bf199_0 rfl)
theorem bx200 {w : am_Wd} {a0 : Nat} {a1 : Int32} : am_x 200 [.ref a0, .int a1] w = am_run 200 0 [some (.ref a0), some (.int a1)] [] w :=
  congrArg (fun l => am_run 200 0 l [] w) (bnr (ls := am_xp [.ref a0, .int a1] ++ List.replicate (am_ml 200 - (am_xp [.ref a0, .int a1]).length) none) (ls' := [some (.ref a0), some (.int a1)]) bf200_0 rfl)
theorem bx201 {w : am_Wd} {a0 : Nat} {a1 : Int32} {a2 : Int32} : am_x 201 [.ref a0, .int a1, .int a2] w = am_run 201 0 [some (.ref a0), some (.int a1), some (.int a2), none] [] w :=
  congrArg (fun l => am_run 201 0 l [] w) (bnr (ls := am_xp [.ref a0, .int a1, .int a2] ++ List.replicate (am_ml 201 - (am_xp [.ref a0, .int a1, .int a2]).length) none) (ls' := [some (.ref a0), some (.int a1), some (.int a2), none]) bf201_0 rfl)
theorem bx202 {w : am_Wd} {a0 : Nat} {a1 : Int32} {a2 : Int32} : am_x 202 [.ref a0, .int a1, .int a2] w = am_run 202 0 [some (.ref a0), some (.int a1), some (.int a2), none] [] w :=
  congrArg (fun l => am_run 202 0 l [] w) (bnr (ls := am_xp [.ref a0, .int a1, .int a2] ++ List.replicate (am_ml 202 - (am_xp [.ref a0, .int a1, .int a2]).length) none) (ls' := [some (.ref a0), some (.int a1), some (.int a2), none]) bf202_0 rfl)
theorem bx203 {w : am_Wd} {a0 : Nat} {a1 : Int32} : am_x 203 [.ref a0, .int a1] w = am_run 203 0 [some (.ref a0), some (.int a1), none, none, none] [] w :=
  congrArg (fun l => am_run 203 0 l [] w) (bnr (ls := am_xp [.ref a0, .int a1] ++ List.replicate (am_ml 203 - (am_xp [.ref a0, .int a1]).length) none) (ls' := [some (.ref a0), some (.int a1), none, none, none]) bf203_0 rfl)
theorem bx204 {w : am_Wd} {a0 : Nat} {a1 : Int32} {a2 : Int32} : am_x 204 [.ref a0, .int a1, .int a2] w = am_run 204 0 [some (.ref a0), some (.int a1), some (.int a2)] [] w :=
  congrArg (fun l => am_run 204 0 l [] w) (bnr (ls := am_xp [.ref a0, .int a1, .int a2] ++ List.replicate (am_ml 204 - (am_xp [.ref a0, .int a1, .int a2]).length) none) (ls' := [some (.ref a0), some (.int a1), some (.int a2)]) bf204_0 rfl)
theorem bx205 {w : am_Wd} {a0 : Nat} {a1 : Nat} : am_x 205 [.ref a0, .ref a1] w = am_run 205 0 [some (.ref a0), some (.ref a1), none, none, none] [] w :=
  congrArg (fun l => am_run 205 0 l [] w) (bnr (ls := am_xp [.ref a0, .ref a1] ++ List.replicate (am_ml 205 - (am_xp [.ref a0, .ref a1]).length) none) (ls' := [some (.ref a0), some (.ref a1), none, none, none]) bf205_0 rfl)
theorem bx206 {w : am_Wd} {a0 : Nat} {a1 : Int32} : am_x 206 [.ref a0, .int a1] w = am_run 206 0 [some (.ref a0), some (.int a1), none, none, none] [] w :=
  congrArg (fun l => am_run 206 0 l [] w) (bnr (ls := am_xp [.ref a0, .int a1] ++ List.replicate (am_ml 206 - (am_xp [.ref a0, .int a1]).length) none) (ls' := [some (.ref a0), some (.int a1), none, none, none]) bf206_0 rfl)
theorem bx207 {w : am_Wd} {a0 : Nat} {a1 : Int32} {a2 : Int32} {a3 : Int32} {a4 : Int32} : am_x 207 [.ref a0, .int a1, .int a2, .int a3, .int a4] w = am_run 207 0 [some (.ref a0), some (.int a1), some (.int a2), some (.int a3), some (.int a4), none] [] w :=
  congrArg (fun l => am_run 207 0 l [] w) (bnr (ls := am_xp [.ref a0, .int a1, .int a2, .int a3, .int a4] ++ List.replicate (am_ml 207 - (am_xp [.ref a0, .int a1, .int a2, .int a3, .int a4]).length) none) (ls' := [some (.ref a0), some (.int a1), some (.int a2), some (.int a3), some (.int a4), none]) bf207_0 rfl)
theorem bx208 {w : am_Wd} {a0 : Nat} {a1 : Nat} {a2 : Int32} : am_x 208 [.ref a0, .ref a1, .int a2] w = am_run 208 0 [none, some (.ref a1), some (.int a2), none, none, none, none] [] w :=
  congrArg (fun l => am_run 208 0 l [] w) (bnr (ls := am_xp [.ref a0, .ref a1, .int a2] ++ List.replicate (am_ml 208 - (am_xp [.ref a0, .ref a1, .int a2]).length) none) (ls' := [none, some (.ref a1), some (.int a2), none, none, none, none]) bf208_0 rfl)
theorem bx209 {w : am_Wd} {a0 : Nat} {a1 : Int32} : am_x 209 [.ref a0, .int a1] w = am_run 209 0 [some (.ref a0), some (.int a1), none, none, none] [] w :=
  congrArg (fun l => am_run 209 0 l [] w) (bnr (ls := am_xp [.ref a0, .int a1] ++ List.replicate (am_ml 209 - (am_xp [.ref a0, .int a1]).length) none) (ls' := [some (.ref a0), some (.int a1), none, none, none]) bf209_0 rfl)
theorem bx210 {w : am_Wd} {a0 : Nat} {a1 : Int32} {a2 : Int32} : am_x 210 [.ref a0, .int a1, .int a2] w = am_run 210 0 [some (.ref a0), some (.int a1), some (.int a2), none, none] [] w :=
  congrArg (fun l => am_run 210 0 l [] w) (bnr (ls := am_xp [.ref a0, .int a1, .int a2] ++ List.replicate (am_ml 210 - (am_xp [.ref a0, .int a1, .int a2]).length) none) (ls' := [some (.ref a0), some (.int a1), some (.int a2), none, none]) bf210_0 rfl)
theorem bx211 {w : am_Wd} {a0 : Nat} {a1 : Int32} : am_x 211 [.ref a0, .int a1] w = am_run 211 0 [some (.ref a0), some (.int a1), none, none, none, none] [] w :=
  congrArg (fun l => am_run 211 0 l [] w) (bnr (ls := am_xp [.ref a0, .int a1] ++ List.replicate (am_ml 211 - (am_xp [.ref a0, .int a1]).length) none) (ls' := [some (.ref a0), some (.int a1), none, none, none, none]) bf211_0 rfl)
theorem bx212 {w : am_Wd} {a0 : Nat} {a1 : Int32} {a2 : Int32} {a3 : Int32} : am_x 212 [.ref a0, .int a1, .int a2, .int a3] w = am_run 212 0 [some (.ref a0), some (.int a1), some (.int a2), some (.int a3)] [] w :=
  congrArg (fun l => am_run 212 0 l [] w) (bnr (ls := am_xp [.ref a0, .int a1, .int a2, .int a3] ++ List.replicate (am_ml 212 - (am_xp [.ref a0, .int a1, .int a2, .int a3]).length) none) (ls' := [some (.ref a0), some (.int a1), some (.int a2), some (.int a3)]) bf212_0 rfl)
theorem bx213 {w : am_Wd} {a0 : Nat} {a1 : Int32} : am_x 213 [.ref a0, .int a1] w = am_run 213 0 [some (.ref a0), some (.int a1), none, none, none] [] w :=
  congrArg (fun l => am_run 213 0 l [] w) (bnr (ls := am_xp [.ref a0, .int a1] ++ List.replicate (am_ml 213 - (am_xp [.ref a0, .int a1]).length) none) (ls' := [some (.ref a0), some (.int a1), none, none, none]) bf213_0 rfl)
theorem bx214 {w : am_Wd} {a0 : Nat} {a1 : Int32} {a2 : Int32} {a3 : Int32} : am_x 214 [.ref a0, .int a1, .int a2, .int a3] w = am_run 214 0 [some (.ref a0), some (.int a1), some (.int a2), some (.int a3)] [] w :=
  congrArg (fun l => am_run 214 0 l [] w) (bnr (ls := am_xp [.ref a0, .int a1, .int a2, .int a3] ++ List.replicate (am_ml 214 - (am_xp [.ref a0, .int a1, .int a2, .int a3]).length) none) (ls' := [some (.ref a0), some (.int a1), some (.int a2), some (.int a3)]) bf214_0 rfl)
theorem bx215 {w : am_Wd} {a0 : Nat} : am_x 215 [.ref a0] w = am_run 215 0 [some (.ref a0)] [] w :=
  congrArg (fun l => am_run 215 0 l [] w) (bnr (ls := am_xp [.ref a0] ++ List.replicate (am_ml 215 - (am_xp [.ref a0]).length) none) (ls' := [some (.ref a0)]) bf215_0 rfl)
theorem bx216 {w : am_Wd} {a0 : Nat} {a1 : Int32} {a2 : Int32} {a3 : Int32} {a4 : Int32} {a5 : Nat} : am_x 216 [.ref a0, .int a1, .int a2, .int a3, .int a4, .ref a5] w = am_run 216 0 [some (.ref a0), some (.int a1), some (.int a2), some (.int a3), some (.int a4), some (.ref a5), none] [] w :=
  congrArg (fun l => am_run 216 0 l [] w) (bnr (ls := am_xp [.ref a0, .int a1, .int a2, .int a3, .int a4, .ref a5] ++ List.replicate (am_ml 216 - (am_xp [.ref a0, .int a1, .int a2, .int a3, .int a4, .ref a5]).length) none) (ls' := [some (.ref a0), some (.int a1), some (.int a2), some (.int a3), some (.int a4), some (.ref a5), none]) bf216_0 rfl)
theorem bx217 {w : am_Wd} {a0 : Nat} {a1 : Int32} {a2 : Int32} {a3 : Int32} {a4 : Int32} {a5 : Nat} : am_x 217 [.ref a0, .int a1, .int a2, .int a3, .int a4, .ref a5] w = am_run 217 0 [some (.ref a0), some (.int a1), some (.int a2), some (.int a3), some (.int a4), some (.ref a5), none] [] w :=
  congrArg (fun l => am_run 217 0 l [] w) (bnr (ls := am_xp [.ref a0, .int a1, .int a2, .int a3, .int a4, .ref a5] ++ List.replicate (am_ml 217 - (am_xp [.ref a0, .int a1, .int a2, .int a3, .int a4, .ref a5]).length) none) (ls' := [some (.ref a0), some (.int a1), some (.int a2), some (.int a3), some (.int a4), some (.ref a5), none]) bf217_0 rfl)
theorem bx218 {w : am_Wd} {a0 : Nat} {a1 : Int32} {a2 : Int32} {a3 : Nat} : am_x 218 [.ref a0, .int a1, .int a2, .ref a3] w = am_run 218 0 [some (.ref a0), some (.int a1), some (.int a2), some (.ref a3), none] [] w :=
  congrArg (fun l => am_run 218 0 l [] w) (bnr (ls := am_xp [.ref a0, .int a1, .int a2, .ref a3] ++ List.replicate (am_ml 218 - (am_xp [.ref a0, .int a1, .int a2, .ref a3]).length) none) (ls' := [some (.ref a0), some (.int a1), some (.int a2), some (.ref a3), none]) bf218_0 rfl)
theorem bx219 {w : am_Wd} {a0 : Nat} {a1 : Int32} {a2 : Int32} {a3 : Int32} {a4 : Nat} : am_x 219 [.ref a0, .int a1, .int a2, .int a3, .ref a4] w = am_run 219 0 [some (.ref a0), some (.int a1), some (.int a2), some (.int a3), some (.ref a4), none] [] w :=
  congrArg (fun l => am_run 219 0 l [] w) (bnr (ls := am_xp [.ref a0, .int a1, .int a2, .int a3, .ref a4] ++ List.replicate (am_ml 219 - (am_xp [.ref a0, .int a1, .int a2, .int a3, .ref a4]).length) none) (ls' := [some (.ref a0), some (.int a1), some (.int a2), some (.int a3), some (.ref a4), none]) bf219_0 rfl)
theorem bx220 {w : am_Wd} {a0 : Nat} {a1 : Int32} {a2 : Int32} {a3 : Nat} : am_x 220 [.ref a0, .int a1, .int a2, .ref a3] w = am_run 220 0 [some (.ref a0), some (.int a1), some (.int a2), some (.ref a3), none] [] w :=
  congrArg (fun l => am_run 220 0 l [] w) (bnr (ls := am_xp [.ref a0, .int a1, .int a2, .ref a3] ++ List.replicate (am_ml 220 - (am_xp [.ref a0, .int a1, .int a2, .ref a3]).length) none) (ls' := [some (.ref a0), some (.int a1), some (.int a2), some (.ref a3), none]) bf220_0 rfl)
theorem bx223 {w : am_Wd} {a0 : Nat} {a1 : Int32} {a2 : Int32} : am_x 223 [.ref a0, .int a1, .int a2] w = am_run 223 0 [some (.ref a0), some (.int a1), some (.int a2), none] [] w :=
  congrArg (fun l => am_run 223 0 l [] w) (bnr (ls := am_xp [.ref a0, .int a1, .int a2] ++ List.replicate (am_ml 223 - (am_xp [.ref a0, .int a1, .int a2]).length) none) (ls' := [some (.ref a0), some (.int a1), some (.int a2), none]) bf223_0 rfl)
theorem bx224 {w : am_Wd} {a0 : Nat} : am_x 224 [.ref a0] w = am_run 224 0 [some (.ref a0), none, none] [] w :=
  congrArg (fun l => am_run 224 0 l [] w) (bnr (ls := am_xp [.ref a0] ++ List.replicate (am_ml 224 - (am_xp [.ref a0]).length) none) (ls' := [some (.ref a0), none, none]) bf224_0 rfl)
theorem bx225 {w : am_Wd} {a0 : Nat} {a1 : Nat} {a2 : Int32} : am_x 225 [.ref a0, .ref a1, .int a2] w = am_run 225 0 [some (.ref a0), some (.ref a1), some (.int a2)] [] w :=
  congrArg (fun l => am_run 225 0 l [] w) (bnr (ls := am_xp [.ref a0, .ref a1, .int a2] ++ List.replicate (am_ml 225 - (am_xp [.ref a0, .ref a1, .int a2]).length) none) (ls' := [some (.ref a0), some (.ref a1), some (.int a2)]) bf225_0 rfl)
theorem bx226 {w : am_Wd} {a0 : Nat} {a1 : Nat} : am_x 226 [.ref a0, .ref a1] w = am_run 226 0 [some (.ref a0), some (.ref a1)] [] w :=
  congrArg (fun l => am_run 226 0 l [] w) (bnr (ls := am_xp [.ref a0, .ref a1] ++ List.replicate (am_ml 226 - (am_xp [.ref a0, .ref a1]).length) none) (ls' := [some (.ref a0), some (.ref a1)]) bf226_0 rfl)
theorem bx227 {w : am_Wd} {a0 : Nat} {a1 : Int32} : am_x 227 [.ref a0, .int a1] w = am_run 227 0 [some (.ref a0), some (.int a1)] [] w :=
  congrArg (fun l => am_run 227 0 l [] w) (bnr (ls := am_xp [.ref a0, .int a1] ++ List.replicate (am_ml 227 - (am_xp [.ref a0, .int a1]).length) none) (ls' := [some (.ref a0), some (.int a1)]) bf227_0 rfl)
theorem bx228 {w : am_Wd} {a0 : Nat} {a1 : Int32} {a2 : Int32} {a3 : Int32} : am_x 228 [.ref a0, .int a1, .int a2, .int a3] w = am_run 228 0 [some (.ref a0), some (.int a1), some (.int a2), some (.int a3)] [] w :=
  congrArg (fun l => am_run 228 0 l [] w) (bnr (ls := am_xp [.ref a0, .int a1, .int a2, .int a3] ++ List.replicate (am_ml 228 - (am_xp [.ref a0, .int a1, .int a2, .int a3]).length) none) (ls' := [some (.ref a0), some (.int a1), some (.int a2), some (.int a3)]) bf228_0 rfl)
theorem bx229 {w : am_Wd} {a0 : Nat} {a1 : Nat} : am_x 229 [.ref a0, .ref a1] w = am_run 229 0 [some (.ref a0), some (.ref a1), none, none, none, none, none] [] w :=
  congrArg (fun l => am_run 229 0 l [] w) (bnr (ls := am_xp [.ref a0, .ref a1] ++ List.replicate (am_ml 229 - (am_xp [.ref a0, .ref a1]).length) none) (ls' := [some (.ref a0), some (.ref a1), none, none, none, none, none]) bf229_0 rfl)
theorem bx230 {w : am_Wd} {a0 : Nat} {a1 : Nat} {a2 : Int32} : am_x 230 [.ref a0, .ref a1, .int a2] w = am_run 230 0 [none, some (.ref a1), some (.int a2), none, none] [] w :=
  congrArg (fun l => am_run 230 0 l [] w) (bnr (ls := am_xp [.ref a0, .ref a1, .int a2] ++ List.replicate (am_ml 230 - (am_xp [.ref a0, .ref a1, .int a2]).length) none) (ls' := [none, some (.ref a1), some (.int a2), none, none]) bf230_0 rfl)
theorem bx231 {w : am_Wd} {a0 : Nat} {a1 : Int32} {a2 : Int32} : am_x 231 [.ref a0, .int a1, .int a2] w = am_run 231 0 [some (.ref a0), some (.int a1), some (.int a2)] [] w :=
  congrArg (fun l => am_run 231 0 l [] w) (bnr (ls := am_xp [.ref a0, .int a1, .int a2] ++ List.replicate (am_ml 231 - (am_xp [.ref a0, .int a1, .int a2]).length) none) (ls' := [some (.ref a0), some (.int a1), some (.int a2)]) bf231_0 rfl)
theorem bx232 {w : am_Wd} {a0 : Nat} {a1 : Int32} {a2 : Int32} : am_x 232 [.ref a0, .int a1, .int a2] w = am_run 232 0 [some (.ref a0), some (.int a1), some (.int a2)] [] w :=
  congrArg (fun l => am_run 232 0 l [] w) (bnr (ls := am_xp [.ref a0, .int a1, .int a2] ++ List.replicate (am_ml 232 - (am_xp [.ref a0, .int a1, .int a2]).length) none) (ls' := [some (.ref a0), some (.int a1), some (.int a2)]) bf232_0 rfl)
theorem bx233 {w : am_Wd} {a0 : Nat} {a1 : Int32} {a2 : Nat} : am_x 233 [.ref a0, .int a1, .ref a2] w = am_run 233 0 [some (.ref a0), some (.int a1), some (.ref a2), none] [] w :=
  congrArg (fun l => am_run 233 0 l [] w) (bnr (ls := am_xp [.ref a0, .int a1, .ref a2] ++ List.replicate (am_ml 233 - (am_xp [.ref a0, .int a1, .ref a2]).length) none) (ls' := [some (.ref a0), some (.int a1), some (.ref a2), none]) bf233_0 rfl)
theorem bx234 {w : am_Wd} {a0 : Nat} {a1 : Int32} {a2 : Int32} {a3 : Nat} : am_x 234 [.ref a0, .int a1, .int a2, .ref a3] w = am_run 234 0 [some (.ref a0), some (.int a1), some (.int a2), some (.ref a3), none] [] w :=
  congrArg (fun l => am_run 234 0 l [] w) (bnr (ls := am_xp [.ref a0, .int a1, .int a2, .ref a3] ++ List.replicate (am_ml 234 - (am_xp [.ref a0, .int a1, .int a2, .ref a3]).length) none) (ls' := [some (.ref a0), some (.int a1), some (.int a2), some (.ref a3), none]) bf234_0 rfl)
theorem bx235 {w : am_Wd} {a0 : Nat} {a1 : Int32} {a2 : Int32} {a3 : Nat} : am_x 235 [.ref a0, .int a1, .int a2, .ref a3] w = am_run 235 0 [some (.ref a0), some (.int a1), some (.int a2), some (.ref a3), none] [] w :=
  congrArg (fun l => am_run 235 0 l [] w) (bnr (ls := am_xp [.ref a0, .int a1, .int a2, .ref a3] ++ List.replicate (am_ml 235 - (am_xp [.ref a0, .int a1, .int a2, .ref a3]).length) none) (ls' := [some (.ref a0), some (.int a1), some (.int a2), some (.ref a3), none]) bf235_0 rfl)
theorem bx236 {w : am_Wd} {a0 : Nat} {a1 : Int32} {a2 : Nat} : am_x 236 [.ref a0, .int a1, .ref a2] w = am_run 236 0 [some (.ref a0), some (.int a1), some (.ref a2), none] [] w :=
  congrArg (fun l => am_run 236 0 l [] w) (bnr (ls := am_xp [.ref a0, .int a1, .ref a2] ++ List.replicate (am_ml 236 - (am_xp [.ref a0, .int a1, .ref a2]).length) none) (ls' := [some (.ref a0), some (.int a1), some (.ref a2), none]) bf236_0 rfl)
theorem bx237 {w : am_Wd} {a0 : Nat} {a1 : Int32} {a2 : Int32} {a3 : Nat} : am_x 237 [.ref a0, .int a1, .int a2, .ref a3] w = am_run 237 0 [some (.ref a0), some (.int a1), some (.int a2), some (.ref a3), none] [] w :=
  congrArg (fun l => am_run 237 0 l [] w) (bnr (ls := am_xp [.ref a0, .int a1, .int a2, .ref a3] ++ List.replicate (am_ml 237 - (am_xp [.ref a0, .int a1, .int a2, .ref a3]).length) none) (ls' := [some (.ref a0), some (.int a1), some (.int a2), some (.ref a3), none]) bf237_0 rfl)
theorem bx239 {w : am_Wd} {a0 : Nat} {a1 : Int32} {a2 : Int32} : am_x 239 [.ref a0, .int a1, .int a2] w = am_run 239 0 [some (.ref a0), some (.int a1), some (.int a2), none, none] [] w :=
  congrArg (fun l => am_run 239 0 l [] w) (bnr (ls := am_xp [.ref a0, .int a1, .int a2] ++ List.replicate (am_ml 239 - (am_xp [.ref a0, .int a1, .int a2]).length) none) (ls' := [some (.ref a0), some (.int a1), some (.int a2), none, none]) bf239_0 rfl)
theorem bx240 {w : am_Wd} {a0 : Nat} {a1 : Int32} {a2 : Int32} {a3 : Int32} : am_x 240 [.ref a0, .int a1, .int a2, .int a3] w = am_run 240 0 [some (.ref a0), some (.int a1), some (.int a2), some (.int a3), none] [] w :=
  congrArg (fun l => am_run 240 0 l [] w) (bnr (ls := am_xp [.ref a0, .int a1, .int a2, .int a3] ++ List.replicate (am_ml 240 - (am_xp [.ref a0, .int a1, .int a2, .int a3]).length) none) (ls' := [some (.ref a0), some (.int a1), some (.int a2), some (.int a3), none]) bf240_0 rfl)
theorem bx241 {w : am_Wd} {a0 : Nat} {a1 : Int32} {a2 : Int32} : am_x 241 [.ref a0, .int a1, .int a2] w = am_run 241 0 [some (.ref a0), some (.int a1), some (.int a2), none, none] [] w :=
  congrArg (fun l => am_run 241 0 l [] w) (bnr (ls := am_xp [.ref a0, .int a1, .int a2] ++ List.replicate (am_ml 241 - (am_xp [.ref a0, .int a1, .int a2]).length) none) (ls' := [some (.ref a0), some (.int a1), some (.int a2), none, none]) bf241_0 rfl)
theorem bx242 {w : am_Wd} {a0 : Nat} {a1 : Int32} {a2 : Int32} : am_x 242 [.ref a0, .int a1, .int a2] w = am_run 242 0 [some (.ref a0), some (.int a1), some (.int a2), none, none, none, none] [] w :=
  congrArg (fun l => am_run 242 0 l [] w) (bnr (ls := am_xp [.ref a0, .int a1, .int a2] ++ List.replicate (am_ml 242 - (am_xp [.ref a0, .int a1, .int a2]).length) none) (ls' := [some (.ref a0), some (.int a1), some (.int a2), none, none, none, none]) bf242_0 rfl)
theorem bx243 {w : am_Wd} {a0 : Nat} {a1 : Int32} : am_x 243 [.ref a0, .int a1] w = am_run 243 0 [some (.ref a0), some (.int a1), none, none, none] [] w :=
  congrArg (fun l => am_run 243 0 l [] w) (bnr (ls := am_xp [.ref a0, .int a1] ++ List.replicate (am_ml 243 - (am_xp [.ref a0, .int a1]).length) none) (ls' := [some (.ref a0), some (.int a1), none, none, none]) bf243_0 rfl)
theorem bx244 {w : am_Wd} {a0 : Nat} {a1 : Int64} {a2 : Int32} : am_x 244 [.ref a0, .long a1, .int a2] w = am_run 244 0 [some (.ref a0), some (.long a1), none, some (.int a2), none, none, none] [] w :=
  congrArg (fun l => am_run 244 0 l [] w) (bnr (ls := am_xp [.ref a0, .long a1, .int a2] ++ List.replicate (am_ml 244 - (am_xp [.ref a0, .long a1, .int a2]).length) none) (ls' := [some (.ref a0), some (.long a1), none, some (.int a2), none, none, none]) bf244_0 rfl)
theorem bx245 {w : am_Wd} {a0 : Nat} {a1 : Nat} : am_x 245 [.ref a0, .ref a1] w = am_run 245 0 [some (.ref a0), some (.ref a1)] [] w :=
  congrArg (fun l => am_run 245 0 l [] w) (bnr (ls := am_xp [.ref a0, .ref a1] ++ List.replicate (am_ml 245 - (am_xp [.ref a0, .ref a1]).length) none) (ls' := [some (.ref a0), some (.ref a1)]) bf245_0 rfl)
theorem bx246 {w : am_Wd} {a0 : Nat} {a1 : Int32} : am_x 246 [.ref a0, .int a1] w = am_run 246 0 [some (.ref a0), some (.int a1), none, none, none, none] [] w :=
  congrArg (fun l => am_run 246 0 l [] w) (bnr (ls := am_xp [.ref a0, .int a1] ++ List.replicate (am_ml 246 - (am_xp [.ref a0, .int a1]).length) none) (ls' := [some (.ref a0), some (.int a1), none, none, none, none]) bf246_0 rfl)
theorem bx247 {w : am_Wd} {a0 : Nat} {a1 : Int32} {a2 : Int32} : am_x 247 [.ref a0, .int a1, .int a2] w = am_run 247 0 [some (.ref a0), some (.int a1), some (.int a2)] [] w :=
  congrArg (fun l => am_run 247 0 l [] w) (bnr (ls := am_xp [.ref a0, .int a1, .int a2] ++ List.replicate (am_ml 247 - (am_xp [.ref a0, .int a1, .int a2]).length) none) (ls' := [some (.ref a0), some (.int a1), some (.int a2)]) bf247_0 rfl)
theorem bx248 {w : am_Wd} {a0 : Nat} {a1 : Nat} : am_x 248 [.ref a0, .ref a1] w = am_run 248 0 [some (.ref a0), some (.ref a1), none, none] [] w :=
  congrArg (fun l => am_run 248 0 l [] w) (bnr (ls := am_xp [.ref a0, .ref a1] ++ List.replicate (am_ml 248 - (am_xp [.ref a0, .ref a1]).length) none) (ls' := [some (.ref a0), some (.ref a1), none, none]) bf248_0 rfl)
theorem bx249 {w : am_Wd} {a0 : Nat} {a1 : Int32} {a2 : Int32} {a3 : Nat} : am_x 249 [.ref a0, .int a1, .int a2, .ref a3] w = am_run 249 0 [some (.ref a0), some (.int a1), some (.int a2), some (.ref a3), none] [] w :=
  congrArg (fun l => am_run 249 0 l [] w) (bnr (ls := am_xp [.ref a0, .int a1, .int a2, .ref a3] ++ List.replicate (am_ml 249 - (am_xp [.ref a0, .int a1, .int a2, .ref a3]).length) none) (ls' := [some (.ref a0), some (.int a1), some (.int a2), some (.ref a3), none]) bf249_0 rfl)
theorem bx250 {w : am_Wd} {a0 : Nat} : am_x 250 [.ref a0] w = am_run 250 0 [some (.ref a0), none, none, none, none] [] w :=
  congrArg (fun l => am_run 250 0 l [] w) (bnr (ls := am_xp [.ref a0] ++ List.replicate (am_ml 250 - (am_xp [.ref a0]).length) none) (ls' := [some (.ref a0), none, none, none, none]) bf250_0 rfl)
theorem bx251 {w : am_Wd} {a0 : Nat} {a1 : Nat} : am_x 251 [.ref a0, .ref a1] w = am_run 251 0 [some (.ref a0), some (.ref a1)] [] w :=
  congrArg (fun l => am_run 251 0 l [] w) (bnr (ls := am_xp [.ref a0, .ref a1] ++ List.replicate (am_ml 251 - (am_xp [.ref a0, .ref a1]).length) none) (ls' := [some (.ref a0), some (.ref a1)]) bf251_0 rfl)
theorem bx252 {w : am_Wd} {a0 : Nat} {a1 : Int32} : am_x 252 [.ref a0, .int a1] w = am_run 252 0 [some (.ref a0), some (.int a1)] [] w :=
  congrArg (fun l => am_run 252 0 l [] w) (bnr (ls := am_xp [.ref a0, .int a1] ++ List.replicate (am_ml 252 - (am_xp [.ref a0, .int a1]).length) none) (ls' := [some (.ref a0), some (.int a1)]) bf252_0 rfl)
theorem bx253 {w : am_Wd} {a0 : Nat} {a1 : Int32} {a2 : Int32} {a3 : Nat} : am_x 253 [.ref a0, .int a1, .int a2, .ref a3] w = am_run 253 0 [some (.ref a0), some (.int a1), some (.int a2), some (.ref a3), none] [] w :=
  congrArg (fun l => am_run 253 0 l [] w) (bnr (ls := am_xp [.ref a0, .int a1, .int a2, .ref a3] ++ List.replicate (am_ml 253 - (am_xp [.ref a0, .int a1, .int a2, .ref a3]).length) none) (ls' := [some (.ref a0), some (.int a1), some (.int a2), some (.ref a3), none]) bf253_0 rfl)
theorem bx254 {w : am_Wd} {a0 : Nat} {a1 : Int32} {a2 : Int32} {a3 : Int32} {a4 : Nat} : am_x 254 [.ref a0, .int a1, .int a2, .int a3, .ref a4] w = am_run 254 0 [some (.ref a0), some (.int a1), some (.int a2), some (.int a3), some (.ref a4), none] [] w :=
  congrArg (fun l => am_run 254 0 l [] w) (bnr (ls := am_xp [.ref a0, .int a1, .int a2, .int a3, .ref a4] ++ List.replicate (am_ml 254 - (am_xp [.ref a0, .int a1, .int a2, .int a3, .ref a4]).length) none) (ls' := [some (.ref a0), some (.int a1), some (.int a2), some (.int a3), some (.ref a4), none]) bf254_0 rfl)
theorem bx255 {w : am_Wd} {a0 : Nat} {a1 : Int32} {a2 : Int32} {a3 : Nat} : am_x 255 [.ref a0, .int a1, .int a2, .ref a3] w = am_run 255 0 [some (.ref a0), some (.int a1), some (.int a2), some (.ref a3), none] [] w :=
  congrArg (fun l => am_run 255 0 l [] w) (bnr (ls := am_xp [.ref a0, .int a1, .int a2, .ref a3] ++ List.replicate (am_ml 255 - (am_xp [.ref a0, .int a1, .int a2, .ref a3]).length) none) (ls' := [some (.ref a0), some (.int a1), some (.int a2), some (.ref a3), none]) bf255_0 rfl)
theorem bx256 {w : am_Wd} {a0 : Nat} {a1 : Int32} {a2 : Int32} {a3 : Nat} : am_x 256 [.ref a0, .int a1, .int a2, .ref a3] w = am_run 256 0 [some (.ref a0), some (.int a1), some (.int a2), some (.ref a3), none] [] w :=
  congrArg (fun l => am_run 256 0 l [] w) (bnr (ls := am_xp [.ref a0, .int a1, .int a2, .ref a3] ++ List.replicate (am_ml 256 - (am_xp [.ref a0, .int a1, .int a2, .ref a3]).length) none) (ls' := [some (.ref a0), some (.int a1), some (.int a2), some (.ref a3), none]) bf256_0 rfl)
theorem bx257 {w : am_Wd} {a0 : Nat} {a1 : Int32} {a2 : Nat} : am_x 257 [.ref a0, .int a1, .ref a2] w = am_run 257 0 [some (.ref a0), some (.int a1), some (.ref a2), none] [] w :=
  congrArg (fun l => am_run 257 0 l [] w) (bnr (ls := am_xp [.ref a0, .int a1, .ref a2] ++ List.replicate (am_ml 257 - (am_xp [.ref a0, .int a1, .ref a2]).length) none) (ls' := [some (.ref a0), some (.int a1), some (.ref a2), none]) bf257_0 rfl)
theorem bx258 {w : am_Wd} {a0 : Nat} {a1 : Nat} {a2 : Int32} : am_x 258 [.ref a0, .ref a1, .int a2] w = am_run 258 0 [some (.ref a0), some (.ref a1), some (.int a2)] [] w :=
  congrArg (fun l => am_run 258 0 l [] w) (bnr (ls := am_xp [.ref a0, .ref a1, .int a2] ++ List.replicate (am_ml 258 - (am_xp [.ref a0, .ref a1, .int a2]).length) none) (ls' := [some (.ref a0), some (.ref a1), some (.int a2)]) bf258_0 rfl)
theorem bx259 {w : am_Wd} {a0 : Nat} {a1 : Nat} {a2 : Int32} : am_x 259 [.ref a0, .ref a1, .int a2] w = am_run 259 0 [some (.ref a0), some (.ref a1), some (.int a2)] [] w :=
  congrArg (fun l => am_run 259 0 l [] w) (bnr (ls := am_xp [.ref a0, .ref a1, .int a2] ++ List.replicate (am_ml 259 - (am_xp [.ref a0, .ref a1, .int a2]).length) none) (ls' := [some (.ref a0), some (.ref a1), some (.int a2)]) bf259_0 rfl)
theorem bx260 {w : am_Wd} {a0 : Nat} {a1 : Int32} {a2 : Int32} : am_x 260 [.ref a0, .int a1, .int a2] w = am_run 260 0 [some (.ref a0), some (.int a1), some (.int a2), none, none, none, none, none, none, none] [] w :=
  congrArg (fun l => am_run 260 0 l [] w) (bnr (ls := am_xp [.ref a0, .int a1, .int a2] ++ List.replicate (am_ml 260 - (am_xp [.ref a0, .int a1, .int a2]).length) none) (ls' := [some (.ref a0), some (.int a1), some (.int a2), none, none, none, none, none, none, none]) bf260_0 rfl)
theorem bx261 {w : am_Wd} {a0 : Nat} {a1 : Int32} {a2 : Int32} {a3 : Int32} : am_x 261 [.ref a0, .int a1, .int a2, .int a3] w = am_run 261 0 [some (.ref a0), some (.int a1), some (.int a2), some (.int a3), none, none, none, none] [] w :=
  congrArg (fun l => am_run 261 0 l [] w) (bnr (ls := am_xp [.ref a0, .int a1, .int a2, .int a3] ++ List.replicate (am_ml 261 - (am_xp [.ref a0, .int a1, .int a2, .int a3]).length) none) (ls' := [some (.ref a0), some (.int a1), some (.int a2), some (.int a3), none, none, none, none]) bf261_0 rfl)
theorem bx262 {w : am_Wd} {a0 : Nat} {a1 : Int32} {a2 : Int32} : am_x 262 [.ref a0, .int a1, .int a2] w = am_run 262 0 [some (.ref a0), some (.int a1), some (.int a2), none, none, none, none] [] w :=
  congrArg (fun l => am_run 262 0 l [] w) (bnr (ls := am_xp [.ref a0, .int a1, .int a2] ++ List.replicate (am_ml 262 - (am_xp [.ref a0, .int a1, .int a2]).length) none) (ls' := [some (.ref a0), some (.int a1), some (.int a2), none, none, none, none]) bf262_0 rfl)
theorem bx263 {w : am_Wd} {a0 : Nat} {a1 : Int32} {a2 : Int32} : am_x 263 [.ref a0, .int a1, .int a2] w = am_run 263 0 [some (.ref a0), some (.int a1), some (.int a2), none, none, none, none] [] w :=
  congrArg (fun l => am_run 263 0 l [] w) (bnr (ls := am_xp [.ref a0, .int a1, .int a2] ++ List.replicate (am_ml 263 - (am_xp [.ref a0, .int a1, .int a2]).length) none) (ls' := [some (.ref a0), some (.int a1), some (.int a2), none, none, none, none]) bf263_0 rfl)
theorem bx264 {w : am_Wd} {a0 : Nat} {a1 : Int32} {a2 : Int32} : am_x 264 [.ref a0, .int a1, .int a2] w = am_run 264 0 [some (.ref a0), some (.int a1), some (.int a2)] [] w :=
  congrArg (fun l => am_run 264 0 l [] w) (bnr (ls := am_xp [.ref a0, .int a1, .int a2] ++ List.replicate (am_ml 264 - (am_xp [.ref a0, .int a1, .int a2]).length) none) (ls' := [some (.ref a0), some (.int a1), some (.int a2)]) bf264_0 rfl)
theorem bx265 {w : am_Wd} {a0 : Nat} : am_x 265 [.ref a0] w = am_run 265 0 [some (.ref a0), none, none, none, none, none, none] [] w :=
  congrArg (fun l => am_run 265 0 l [] w) (bnr (ls := am_xp [.ref a0] ++ List.replicate (am_ml 265 - (am_xp [.ref a0]).length) none) (ls' := [some (.ref a0), none, none, none, none, none, none]) bf265_0 rfl)
theorem bx266 {w : am_Wd} {a0 : Nat} : am_x 266 [.ref a0] w = am_run 266 0 [some (.ref a0)] [] w :=
  congrArg (fun l => am_run 266 0 l [] w) (bnr (ls := am_xp [.ref a0] ++ List.replicate (am_ml 266 - (am_xp [.ref a0]).length) none) (ls' := [some (.ref a0)]) bf266_0 rfl)
theorem bx267 {w : am_Wd} {a0 : Nat} : am_x 267 [.ref a0] w = am_run 267 0 [some (.ref a0), none, none, none, none, none, none, none] [] w :=
  congrArg (fun l => am_run 267 0 l [] w) (bnr (ls := am_xp [.ref a0] ++ List.replicate (am_ml 267 - (am_xp [.ref a0]).length) none) (ls' := [some (.ref a0), none, none, none, none, none, none, none]) bf267_0 rfl)
theorem bx58n {w : am_Wd} {a0 : Int32} {a1 : Int32} : am_x 58 [.int a0, .int a1, .null] w = am_run 58 0 [some (.int a0), some (.int a1), some (.null)] [] w :=
  congrArg (fun l => am_run 58 0 l [] w) (bnr (ls := am_xp [.int a0, .int a1, .null] ++ List.replicate (am_ml 58 - (am_xp [.int a0, .int a1, .null]).length) none) (ls' := [some (.int a0), some (.int a1), some (.null)]) bf58_0 rfl)
