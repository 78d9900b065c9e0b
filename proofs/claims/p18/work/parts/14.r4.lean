/-! RULES, on. Mine. -/
theorem bk265_260 {w : am_Wd} {l0 : Nat} {l3 : Nat} {l4 : Nat} {s0 : Int32} {s1 : Int64} : am_run 265 260 [some (.ref l0), none, none, some (.ref l3), some (.ref l4), none, none] [.int s0, .long s1] w = (am_kf w l0 11).bind fun _ => (am_x 49 [.ref l0, .ref l4] w).bind fun r => bct r fun v w' => am_run 265 277 [some (.ref l0), none, none, some (.ref l3), some (.ref l4), none, none] (v.toList ++ [.double (4634204016564240384 : UInt64), .long ((s1 + (Int32.toInt64 s0)) * (lN 31))]) w' := by
  refine (bu (ls'' := [some (.ref l0), none, none, some (.ref l3), some (.ref l4), none, none]) (st' := [.long (Int32.toInt64 s0), .long s1]) bf265_260 bf265_261 rfl rfl).trans ?_
  refine (bu (ls'' := [some (.ref l0), none, none, some (.ref l3), some (.ref l4), none, none]) (st' := [.long (s1 + (Int32.toInt64 s0))]) bf265_261 bf265_262 rfl rfl).trans ?_
  refine (bu (ls'' := [some (.ref l0), some (.long (s1 + (Int32.toInt64 s0))), none, some (.ref l3), some (.ref l4), none, none]) (st' := []) bf265_262 bf265_263 rfl rfl).trans ?_
  refine (bu (ls'' := [some (.ref l0), none, none, some (.ref l3), some (.ref l4), none, none]) (st' := [.long (s1 + (Int32.toInt64 s0))]) bf265_263 bf265_264 rfl rfl).trans ?_
  refine (bu (ls'' := [some (.ref l0), none, none, some (.ref l3), some (.ref l4), none, none]) (st' := [.long (lN 31), .long (s1 + (Int32.toInt64 s0))]) bf265_264 bf265_267 rfl rfl).trans ?_
  refine (bu (ls'' := [some (.ref l0), none, none, some (.ref l3), some (.ref l4), none, none]) (st' := [.long ((s1 + (Int32.toInt64 s0)) * (lN 31))]) bf265_267 bf265_268 rfl rfl).trans ?_
  refine (bu (ls'' := [some (.ref l0), none, none, some (.ref l3), some (.ref l4), none, none]) (st' := [.double (4634204016564240384 : UInt64), .long ((s1 + (Int32.toInt64 s0)) * (lN 31))]) bf265_268 bf265_271 rfl rfl).trans ?_
  refine (bu (ls'' := [some (.ref l0), none, none, some (.ref l3), some (.ref l4), none, none]) (st' := [.ref l0, .double (4634204016564240384 : UInt64), .long ((s1 + (Int32.toInt64 s0)) * (lN 31))]) bf265_271 bf265_272 rfl rfl).trans ?_
  refine (bu (ls'' := [some (.ref l0), none, none, some (.ref l3), some (.ref l4), none, none]) (st' := [.ref l4, .ref l0, .double (4634204016564240384 : UInt64), .long ((s1 + (Int32.toInt64 s0)) * (lN 31))]) bf265_272 bf265_274 rfl rfl).trans ?_
  exact bkV bf265_274 bf265_277 rfl (by decide +kernel) (Nat.le_of_ble_eq_true rfl) rfl (bhd rfl)
theorem bk265_240 {w : am_Wd} {l0 : Nat} {l3 : Nat} {l4 : Nat} {l5 : Int32} {s0 : Int32} {s1 : Int64} : am_run 265 240 [some (.ref l0), none, none, some (.ref l3), some (.ref l4), some (.int l5), none] [.int s0, .long s1] w = am_run 265 221 [some (.ref l0), some (.long (s1 + (Int32.toInt64 s0))), none, some (.ref l3), some (.ref l4), some (.int (l5 + (nI 1))), none] [] w := by
  refine (bu (ls'' := [some (.ref l0), none, none, some (.ref l3), some (.ref l4), some (.int l5), none]) (st' := [.long (Int32.toInt64 s0), .long s1]) bf265_240 bf265_241 rfl rfl).trans ?_
  refine (bu (ls'' := [some (.ref l0), none, none, some (.ref l3), some (.ref l4), some (.int l5), none]) (st' := [.long (s1 + (Int32.toInt64 s0))]) bf265_241 bf265_242 rfl rfl).trans ?_
  refine (bu (ls'' := [some (.ref l0), some (.long (s1 + (Int32.toInt64 s0))), none, some (.ref l3), some (.ref l4), some (.int l5), none]) (st' := []) bf265_242 bf265_243 rfl rfl).trans ?_
  refine (bu (ls'' := [some (.ref l0), some (.long (s1 + (Int32.toInt64 s0))), none, some (.ref l3), some (.ref l4), some (.int (l5 + (nI 1))), none]) (st' := []) bf265_243 bf265_246 rfl rfl).trans ?_
  refine (bu (ls'' := [some (.ref l0), some (.long (s1 + (Int32.toInt64 s0))), none, some (.ref l3), some (.ref l4), some (.int (l5 + (nI 1))), none]) (st' := []) bf265_246 bf265_221 rfl rfl).trans ?_
  rfl
theorem bk265_277 {w : am_Wd} {l0 : Nat} {l3 : Nat} {l4 : Nat} {s0 : UInt64} {s1 : UInt64} {s2 : Int64} (hn : (FP.dmul s1 s0) &&& 0x7fffffffffffffff ≤ 0x7ff0000000000000) : am_run 265 277 [some (.ref l0), none, none, some (.ref l3), some (.ref l4), none, none] [.double s0, .double s1, .long s2] w = am_run 265 278 [some (.ref l0), none, none, some (.ref l3), some (.ref l4), none, none] [.double (FP.dmul s1 s0), .long s2] w := by
  exact bdd (h := inferInstance) bf265_277 bf265_278 (fun h => by unfold am_stp; exact if_pos h) rfl hn
theorem bk265_278 {w : am_Wd} {l0 : Nat} {l3 : Nat} {l4 : Nat} {s0 : UInt64} {s1 : Int64} : am_run 265 278 [some (.ref l0), none, none, some (.ref l3), some (.ref l4), none, none] [.double s0, .long s1] w = am_run 265 284 [some (.ref l0), some (.long (s1 + (FP.d2l s0))), none, some (.ref l3), some (.ref l4), some (.int (nI 0)), none] [] w := by
  refine (bu (ls'' := [some (.ref l0), none, none, some (.ref l3), some (.ref l4), none, none]) (st' := [.long (FP.d2l s0), .long s1]) bf265_278 bf265_279 rfl rfl).trans ?_
  refine (bu (ls'' := [some (.ref l0), none, none, some (.ref l3), some (.ref l4), none, none]) (st' := [.long (s1 + (FP.d2l s0))]) bf265_279 bf265_280 rfl rfl).trans ?_
  refine (bu (ls'' := [some (.ref l0), some (.long (s1 + (FP.d2l s0))), none, some (.ref l3), some (.ref l4), none, none]) (st' := []) bf265_280 bf265_281 rfl rfl).trans ?_
  refine (bu (ls'' := [some (.ref l0), some (.long (s1 + (FP.d2l s0))), none, some (.ref l3), some (.ref l4), none, none]) (st' := [.int (nI 0)]) bf265_281 bf265_282 rfl rfl).trans ?_
  refine (bu (ls'' := [some (.ref l0), some (.long (s1 + (FP.d2l s0))), none, some (.ref l3), some (.ref l4), some (.int (nI 0)), none]) (st' := []) bf265_282 bf265_284 rfl rfl).trans ?_
  rfl
theorem bk265_284 {w : am_Wd} {l0 : Nat} {l1 : Int64} {l3 : Nat} {l4 : Nat} {l5 : Int32} : am_run 265 284 [some (.ref l0), some (.long l1), none, some (.ref l3), some (.ref l4), some (.int l5), none] [] w = if (nI 36) ≤ l5 then am_run 265 329 [some (.ref l0), some (.long l1), none, some (.ref l3), none, none, none] [] w else am_run 265 291 [some (.ref l0), some (.long l1), none, some (.ref l3), some (.ref l4), some (.int l5), none] [] w := by
  refine (bu (ls'' := [some (.ref l0), some (.long l1), none, some (.ref l3), some (.ref l4), some (.int l5), none]) (st' := [.int l5]) bf265_284 bf265_286 rfl rfl).trans ?_
  refine (bu (ls'' := [some (.ref l0), some (.long l1), none, some (.ref l3), some (.ref l4), some (.int l5), none]) (st' := [.int (nI 36), .int l5]) bf265_286 bf265_288 rfl rfl).trans ?_
  exact bic bf265_288 rfl bf265_329 bf265_291 rfl rfl rfl
theorem bk265_329 {w : am_Wd} {l0 : Nat} {l1 : Int64} {l3 : Nat} : am_run 265 329 [some (.ref l0), some (.long l1), none, some (.ref l3), none, none, none] [] w = am_run 265 105 [some (.ref l0), some (.long l1), none, some (.ref l3), none, none, none] [] w := by
  refine (bu (ls'' := [some (.ref l0), some (.long l1), none, some (.ref l3), none, none, none]) (st' := []) bf265_329 bf265_105 rfl rfl).trans ?_
  rfl
theorem bk265_291 {w : am_Wd} {l0 : Nat} {l1 : Int64} {l3 : Nat} {l4 : Nat} {l5 : Int32} : am_run 265 291 [some (.ref l0), some (.long l1), none, some (.ref l3), some (.ref l4), some (.int l5), none] [] w = am_run 265 294 [some (.ref l0), some (.long l1), none, some (.ref l3), some (.ref l4), some (.int l5), some (.int (nI 1))] [] w := by
  refine (bu (ls'' := [some (.ref l0), some (.long l1), none, some (.ref l3), some (.ref l4), some (.int l5), none]) (st' := [.int (nI 1)]) bf265_291 bf265_292 rfl rfl).trans ?_
  refine (bu (ls'' := [some (.ref l0), some (.long l1), none, some (.ref l3), some (.ref l4), some (.int l5), some (.int (nI 1))]) (st' := []) bf265_292 bf265_294 rfl rfl).trans ?_
  rfl
theorem bk265_294 {w : am_Wd} {l0 : Nat} {l1 : Int64} {l3 : Nat} {l4 : Nat} {l5 : Int32} {l6 : Int32} : am_run 265 294 [some (.ref l0), some (.long l1), none, some (.ref l3), some (.ref l4), some (.int l5), some (.int l6)] [] w = if (nI 2) < l6 then am_run 265 323 [some (.ref l0), some (.long l1), none, some (.ref l3), some (.ref l4), some (.int l5), none] [] w else am_run 265 300 [some (.ref l0), some (.long l1), none, some (.ref l3), some (.ref l4), some (.int l5), some (.int l6)] [] w := by
  refine (bu (ls'' := [some (.ref l0), some (.long l1), none, some (.ref l3), some (.ref l4), some (.int l5), some (.int l6)]) (st' := [.int l6]) bf265_294 bf265_296 rfl rfl).trans ?_
  refine (bu (ls'' := [some (.ref l0), some (.long l1), none, some (.ref l3), some (.ref l4), some (.int l5), some (.int l6)]) (st' := [.int (nI 2), .int l6]) bf265_296 bf265_297 rfl rfl).trans ?_
  exact bic bf265_297 rfl bf265_323 bf265_300 rfl rfl rfl
theorem bk265_323 {w : am_Wd} {l0 : Nat} {l1 : Int64} {l3 : Nat} {l4 : Nat} {l5 : Int32} : am_run 265 323 [some (.ref l0), some (.long l1), none, some (.ref l3), some (.ref l4), some (.int l5), none] [] w = am_run 265 284 [some (.ref l0), some (.long l1), none, some (.ref l3), some (.ref l4), some (.int (l5 + (nI 1))), none] [] w := by
  refine (bu (ls'' := [some (.ref l0), some (.long l1), none, some (.ref l3), some (.ref l4), some (.int (l5 + (nI 1))), none]) (st' := []) bf265_323 bf265_326 rfl rfl).trans ?_
  refine (bu (ls'' := [some (.ref l0), some (.long l1), none, some (.ref l3), some (.ref l4), some (.int (l5 + (nI 1))), none]) (st' := []) bf265_326 bf265_284 rfl rfl).trans ?_
  rfl
theorem bk265_300 {w : am_Wd} {l0 : Nat} {l1 : Int64} {l3 : Nat} {l4 : Nat} {l5 : Int32} {l6 : Int32} : am_run 265 300 [some (.ref l0), some (.long l1), none, some (.ref l3), some (.ref l4), some (.int l5), some (.int l6)] [] w = (am_x 174 [.ref l4, .int l5, .int l6] w).bind fun r => bct r fun v w' => am_run 265 314 [some (.ref l0), none, none, some (.ref l3), some (.ref l4), some (.int l5), some (.int l6)] (v.toList ++ [.long (l1 * (lN 31))]) w' := by
  refine (bu (ls'' := [some (.ref l0), none, none, some (.ref l3), some (.ref l4), some (.int l5), some (.int l6)]) (st' := [.long l1]) bf265_300 bf265_301 rfl rfl).trans ?_
  refine (bu (ls'' := [some (.ref l0), none, none, some (.ref l3), some (.ref l4), some (.int l5), some (.int l6)]) (st' := [.long (lN 31), .long l1]) bf265_301 bf265_304 rfl rfl).trans ?_
  refine (bu (ls'' := [some (.ref l0), none, none, some (.ref l3), some (.ref l4), some (.int l5), some (.int l6)]) (st' := [.long (l1 * (lN 31))]) bf265_304 bf265_305 rfl rfl).trans ?_
  refine (bu (ls'' := [some (.ref l0), none, none, some (.ref l3), some (.ref l4), some (.int l5), some (.int l6)]) (st' := [.ref l4, .long (l1 * (lN 31))]) bf265_305 bf265_307 rfl rfl).trans ?_
  refine (bu (ls'' := [some (.ref l0), none, none, some (.ref l3), some (.ref l4), some (.int l5), some (.int l6)]) (st' := [.int l5, .ref l4, .long (l1 * (lN 31))]) bf265_307 bf265_309 rfl rfl).trans ?_
  refine (bu (ls'' := [some (.ref l0), none, none, some (.ref l3), some (.ref l4), some (.int l5), some (.int l6)]) (st' := [.int l6, .int l5, .ref l4, .long (l1 * (lN 31))]) bf265_309 bf265_311 rfl rfl).trans ?_
  exact bkS bf265_311 bf265_314 rfl (by decide +kernel) (Nat.le_of_ble_eq_true rfl) rfl (bhd rfl)
theorem bk265_314 {w : am_Wd} {l0 : Nat} {l3 : Nat} {l4 : Nat} {l5 : Int32} {l6 : Int32} {s0 : Int32} {s1 : Int64} : am_run 265 314 [some (.ref l0), none, none, some (.ref l3), some (.ref l4), some (.int l5), some (.int l6)] [.int s0, .long s1] w = am_run 265 294 [some (.ref l0), some (.long (s1 + (Int32.toInt64 s0))), none, some (.ref l3), some (.ref l4), some (.int l5), some (.int (l6 + (nI 1)))] [] w := by
  refine (bu (ls'' := [some (.ref l0), none, none, some (.ref l3), some (.ref l4), some (.int l5), some (.int l6)]) (st' := [.long (Int32.toInt64 s0), .long s1]) bf265_314 bf265_315 rfl rfl).trans ?_
  refine (bu (ls'' := [some (.ref l0), none, none, some (.ref l3), some (.ref l4), some (.int l5), some (.int l6)]) (st' := [.long (s1 + (Int32.toInt64 s0))]) bf265_315 bf265_316 rfl rfl).trans ?_
  refine (bu (ls'' := [some (.ref l0), some (.long (s1 + (Int32.toInt64 s0))), none, some (.ref l3), some (.ref l4), some (.int l5), some (.int l6)]) (st' := []) bf265_316 bf265_317 rfl rfl).trans ?_
  refine (bu (ls'' := [some (.ref l0), some (.long (s1 + (Int32.toInt64 s0))), none, some (.ref l3), some (.ref l4), some (.int l5), some (.int (l6 + (nI 1)))]) (st' := []) bf265_317 bf265_320 rfl rfl).trans ?_
  refine (bu (ls'' := [some (.ref l0), some (.long (s1 + (Int32.toInt64 s0))), none, some (.ref l3), some (.ref l4), some (.int l5), some (.int (l6 + (nI 1)))]) (st' := []) bf265_320 bf265_294 rfl rfl).trans ?_
  rfl
theorem bf266_0 : am_fetch (am_mth 266) 0 = some (.aload_n 0, 1, [], []) := by decide +kernel
theorem bf266_1 : am_fetch (am_mth 266) 1 = some (.getfield 35, 3, [0, 11, 0, 1197], [0]) := by decide +kernel
theorem bf266_4 : am_fetch (am_mth 266) 4 = some (.ireturn, 1, [0], [0]) := by decide +kernel
theorem bk266_0 {w : am_Wd} {l0 : Nat} : am_run 266 0 [some (.ref l0)] [] w = (am_gf w l0 11 0).bind fun v => am_run 266 4 [none] (v :: []) w := by
  refine (bu (ls'' := [none]) (st' := [.ref l0]) bf266_0 bf266_1 rfl rfl).trans ?_
  exact bh bf266_1 bf266_4 rfl (fun _ _ => am_ge_rf w) rfl
theorem bk266_4 {w : am_Wd} {s0 : Int32} : am_run 266 4 [none] [.int s0] w = some (.inl (some (.int s0)), w) := by
  exact am_e2 bf266_4 rfl (am_ge_rf w)
theorem bf269_0 : am_fetch (am_mth 269) 0 = some (.new 8, 3, [0, 8, 9, 79, 80, 46], [1, 2, 3, 4, 5, 6, 7]) := by decide +kernel
theorem bf269_3 : am_fetch (am_mth 269) 3 = some (.dup, 1, [], [1, 2, 3, 4, 5, 6, 7]) := by decide +kernel
theorem bf269_4 : am_fetch (am_mth 269) 4 = some (.invokespecial 119, 3, [0, 89, 0, 81, 82, 46], [1, 2, 3, 4, 5, 6, 7]) := by decide +kernel
theorem bf269_7 : am_fetch (am_mth 269) 7 = some (.astore_n 1, 1, [], [1, 2, 3, 4, 5, 6, 7]) := by decide +kernel
theorem bf269_8 : am_fetch (am_mth 269) 8 = some (.new 120, 3, [0, 11, 12, 1159, 1160, 48], [2, 3, 4, 5, 6, 7]) := by decide +kernel
theorem bf269_11 : am_fetch (am_mth 269) 11 = some (.dup, 1, [], [2, 3, 4, 5, 6, 7]) := by decide +kernel
theorem bf269_12 : am_fetch (am_mth 269) 12 = some (.invokespecial 122, 3, [0, 172, 0, 1161, 1162, 48], [2, 3, 4, 5, 6, 7]) := by decide +kernel
theorem bf269_15 : am_fetch (am_mth 269) 15 = some (.astore_n 2, 1, [], [2, 3, 4, 5, 6, 7]) := by decide +kernel
theorem bf269_16 : am_fetch (am_mth 269) 16 = some (.new 14, 3, [0, 9, 3, 479, 480, 52], [3, 4, 5, 6, 7]) := by decide +kernel
theorem bf269_19 : am_fetch (am_mth 269) 19 = some (.dup, 1, [], [3, 4, 5, 6, 7]) := by decide +kernel
theorem bf269_20 : am_fetch (am_mth 269) 20 = some (.invokespecial 123, 3, [0, 35, 0, 481, 482, 52], [3, 4, 5, 6, 7]) := by decide +kernel
theorem bf269_23 : am_fetch (am_mth 269) 23 = some (.astore_n 3, 1, [], [3, 4, 5, 6, 7]) := by decide +kernel
theorem bf269_24 : am_fetch (am_mth 269) 24 = some (.iconst 0, 1, [], [4, 5, 6, 7]) := by decide +kernel
theorem bf269_25 : am_fetch (am_mth 269) 25 = some (.istore 4, 2, [], [4, 5, 6, 7]) := by decide +kernel
theorem bf269_27 : am_fetch (am_mth 269) 27 = some (.iload 4, 2, [], [5, 6, 7]) := by decide +kernel
theorem bf269_29 : am_fetch (am_mth 269) 29 = some (.aload_n 0, 1, [], [5, 6, 7]) := by decide +kernel
theorem bf269_30 : am_fetch (am_mth 269) 30 = some (.arraylength, 1, [], [5, 6, 7]) := by decide +kernel
theorem bf269_31 : am_fetch (am_mth 269) 31 = some (.iconst 5, 1, [], [5, 6, 7]) := by decide +kernel
theorem bf269_32 : am_fetch (am_mth 269) 32 = some (.isub, 1, [], [5, 6, 7]) := by decide +kernel
theorem bf269_33 : am_fetch (am_mth 269) 33 = some (.if_icmp .gt 1406, 3, [], [5, 6, 7]) := by decide +kernel
theorem bf269_36 : am_fetch (am_mth 269) 36 = some (.aload_n 0, 1, [], [5, 6, 7]) := by decide +kernel
theorem bf269_37 : am_fetch (am_mth 269) 37 = some (.iload 4, 2, [], [5, 6, 7]) := by decide +kernel
theorem bf269_39 : am_fetch (am_mth 269) 39 = some (.iaload, 1, [], [5, 6, 7]) := by decide +kernel
theorem bf269_40 : am_fetch (am_mth 269) 40 = some (.bipush 31, 2, [], [5, 6, 7]) := by decide +kernel
theorem bf269_42 : am_fetch (am_mth 269) 42 = some (.iand, 1, [], [5, 6, 7]) := by decide +kernel
theorem bf269_43 : am_fetch (am_mth 269) 43 = some (.tableswitch 1390 0 28 #[129, 193, 221, 305, 385, 441, 525, 581, 637, 677, 705, 745, 773, 786, 838, 878, 906, 964, 1016, 1056, 1096, 1148, 1188, 1216, 1256, 1284, 1324, 1364, 1377], 129, [], [5, 6, 7]) := by decide +kernel
theorem bf269_172 : am_fetch (am_mth 269) 172 = some (.aload_n 1, 1, [], [5, 6, 7]) := by decide +kernel
theorem bf269_173 : am_fetch (am_mth 269) 173 = some (.aload_n 0, 1, [], [5, 6, 7]) := by decide +kernel
theorem bf269_174 : am_fetch (am_mth 269) 174 = some (.iload 4, 2, [], [5, 6, 7]) := by decide +kernel
theorem bf269_176 : am_fetch (am_mth 269) 176 = some (.iconst 1, 1, [], [5, 6, 7]) := by decide +kernel
theorem bf269_177 : am_fetch (am_mth 269) 177 = some (.iadd, 1, [], [5, 6, 7]) := by decide +kernel
theorem bf269_178 : am_fetch (am_mth 269) 178 = some (.iaload, 1, [], [5, 6, 7]) := by decide +kernel
theorem bf269_179 : am_fetch (am_mth 269) 179 = some (.aload_n 0, 1, [], [5, 6, 7]) := by decide +kernel
theorem bf269_180 : am_fetch (am_mth 269) 180 = some (.iload 4, 2, [], [5, 6, 7]) := by decide +kernel
theorem bf269_182 : am_fetch (am_mth 269) 182 = some (.iconst 2, 1, [], [5, 6, 7]) := by decide +kernel
theorem bf269_183 : am_fetch (am_mth 269) 183 = some (.iadd, 1, [], [5, 6, 7]) := by decide +kernel
theorem bf269_184 : am_fetch (am_mth 269) 184 = some (.iaload, 1, [], [5, 6, 7]) := by decide +kernel
theorem bf269_185 : am_fetch (am_mth 269) 185 = some (.aload_n 0, 1, [], [5, 6, 7]) := by decide +kernel
theorem bf269_186 : am_fetch (am_mth 269) 186 = some (.iload 4, 2, [], [5, 6, 7]) := by decide +kernel
theorem bf269_188 : am_fetch (am_mth 269) 188 = some (.iconst 3, 1, [], [5, 6, 7]) := by decide +kernel
theorem bf269_189 : am_fetch (am_mth 269) 189 = some (.iadd, 1, [], [5, 6, 7]) := by decide +kernel
theorem bf269_190 : am_fetch (am_mth 269) 190 = some (.iaload, 1, [], [5, 6, 7]) := by decide +kernel
theorem bf269_191 : am_fetch (am_mth 269) 191 = some (.aload_n 0, 1, [], [5, 6, 7]) := by decide +kernel
theorem bf269_192 : am_fetch (am_mth 269) 192 = some (.iload 4, 2, [], [5, 6, 7]) := by decide +kernel
theorem bf269_194 : am_fetch (am_mth 269) 194 = some (.iconst 4, 1, [], [5, 6, 7]) := by decide +kernel
theorem bf269_195 : am_fetch (am_mth 269) 195 = some (.iadd, 1, [], [5, 6, 7]) := by decide +kernel
theorem bf269_196 : am_fetch (am_mth 269) 196 = some (.iaload, 1, [], [5, 6, 7]) := by decide +kernel
theorem bf269_197 : am_fetch (am_mth 269) 197 = some (.aload_n 3, 1, [], [5, 6, 7]) := by decide +kernel
theorem bf269_198 : am_fetch (am_mth 269) 198 = some (.invokestatic 124, 3, [0, 216, 6, 495, 496, 45], [5, 6, 7]) := by decide +kernel
theorem bf269_201 : am_fetch (am_mth 269) 201 = some (.istore 5, 2, [], [5, 6, 7]) := by decide +kernel
theorem bf269_203 : am_fetch (am_mth 269) 203 = some (.aload_n 2, 1, [], [5, 6, 7]) := by decide +kernel
theorem bf269_204 : am_fetch (am_mth 269) 204 = some (.aload_n 0, 1, [], [5, 6, 7]) := by decide +kernel
theorem bf269_205 : am_fetch (am_mth 269) 205 = some (.iload 4, 2, [], [5, 6, 7]) := by decide +kernel
theorem bf269_207 : am_fetch (am_mth 269) 207 = some (.iconst 1, 1, [], [5, 6, 7]) := by decide +kernel
theorem bf269_208 : am_fetch (am_mth 269) 208 = some (.iadd, 1, [], [5, 6, 7]) := by decide +kernel
theorem bf269_209 : am_fetch (am_mth 269) 209 = some (.iaload, 1, [], [5, 6, 7]) := by decide +kernel
theorem bf269_210 : am_fetch (am_mth 269) 210 = some (.aload_n 0, 1, [], [5, 6, 7]) := by decide +kernel
theorem bf269_211 : am_fetch (am_mth 269) 211 = some (.iload 4, 2, [], [5, 6, 7]) := by decide +kernel
theorem bf269_213 : am_fetch (am_mth 269) 213 = some (.iconst 2, 1, [], [5, 6, 7]) := by decide +kernel
theorem bf269_214 : am_fetch (am_mth 269) 214 = some (.iadd, 1, [], [5, 6, 7]) := by decide +kernel
theorem bf269_215 : am_fetch (am_mth 269) 215 = some (.iaload, 1, [], [5, 6, 7]) := by decide +kernel
theorem bf269_216 : am_fetch (am_mth 269) 216 = some (.aload_n 0, 1, [], [5, 6, 7]) := by decide +kernel
theorem bf269_217 : am_fetch (am_mth 269) 217 = some (.iload 4, 2, [], [5, 6, 7]) := by decide +kernel
theorem bf269_219 : am_fetch (am_mth 269) 219 = some (.iconst 3, 1, [], [5, 6, 7]) := by decide +kernel
theorem bf269_220 : am_fetch (am_mth 269) 220 = some (.iadd, 1, [], [5, 6, 7]) := by decide +kernel
theorem bf269_221 : am_fetch (am_mth 269) 221 = some (.iaload, 1, [], [5, 6, 7]) := by decide +kernel
theorem bf269_222 : am_fetch (am_mth 269) 222 = some (.aload_n 0, 1, [], [5, 6, 7]) := by decide +kernel
theorem bf269_223 : am_fetch (am_mth 269) 223 = some (.iload 4, 2, [], [5, 6, 7]) := by decide +kernel
theorem bf269_225 : am_fetch (am_mth 269) 225 = some (.iconst 4, 1, [], [5, 6, 7]) := by decide +kernel
theorem bf269_226 : am_fetch (am_mth 269) 226 = some (.iadd, 1, [], [5, 6, 7]) := by decide +kernel
theorem bf269_227 : am_fetch (am_mth 269) 227 = some (.iaload, 1, [], [5, 6, 7]) := by decide +kernel
theorem bf269_228 : am_fetch (am_mth 269) 228 = some (.invokevirtual 129, 3, [0, 176, 4, 11, 1238, 1239, 1240, 48], [5, 6, 7]) := by decide +kernel
theorem bf269_231 : am_fetch (am_mth 269) 231 = some (.istore 6, 2, [], [5, 6, 7]) := by decide +kernel
theorem bf269_233 : am_fetch (am_mth 269) 233 = some (.goto 1200, 3, [], [5, 6, 7]) := by decide +kernel
theorem bf269_236 : am_fetch (am_mth 269) 236 = some (.aload_n 1, 1, [], [5, 6, 7]) := by decide +kernel
theorem bf269_237 : am_fetch (am_mth 269) 237 = some (.aload_n 0, 1, [], [5, 6, 7]) := by decide +kernel
theorem bf269_238 : am_fetch (am_mth 269) 238 = some (.iload 4, 2, [], [5, 6, 7]) := by decide +kernel
theorem bf269_240 : am_fetch (am_mth 269) 240 = some (.iconst 1, 1, [], [5, 6, 7]) := by decide +kernel
theorem bf269_241 : am_fetch (am_mth 269) 241 = some (.iadd, 1, [], [5, 6, 7]) := by decide +kernel
theorem bf269_242 : am_fetch (am_mth 269) 242 = some (.iaload, 1, [], [5, 6, 7]) := by decide +kernel
theorem bf269_243 : am_fetch (am_mth 269) 243 = some (.aload_n 3, 1, [], [5, 6, 7]) := by decide +kernel
theorem bf269_244 : am_fetch (am_mth 269) 244 = some (.invokestatic 130, 3, [0, 233, 3, 510, 511, 45], [5, 6, 7]) := by decide +kernel
theorem bf269_247 : am_fetch (am_mth 269) 247 = some (.istore 5, 2, [], [5, 6, 7]) := by decide +kernel
theorem bf269_249 : am_fetch (am_mth 269) 249 = some (.aload_n 2, 1, [], [5, 6, 7]) := by decide +kernel
theorem bf269_250 : am_fetch (am_mth 269) 250 = some (.aload_n 0, 1, [], [5, 6, 7]) := by decide +kernel
theorem bf269_251 : am_fetch (am_mth 269) 251 = some (.iload 4, 2, [], [5, 6, 7]) := by decide +kernel
theorem bf269_253 : am_fetch (am_mth 269) 253 = some (.iconst 1, 1, [], [5, 6, 7]) := by decide +kernel
theorem bf269_254 : am_fetch (am_mth 269) 254 = some (.iadd, 1, [], [5, 6, 7]) := by decide +kernel
theorem bf269_255 : am_fetch (am_mth 269) 255 = some (.iaload, 1, [], [5, 6, 7]) := by decide +kernel
theorem bf269_256 : am_fetch (am_mth 269) 256 = some (.invokevirtual 133, 3, [0, 206, 1, 11, 1269, 1270, 1271, 48], [5, 6, 7]) := by decide +kernel
theorem bf269_259 : am_fetch (am_mth 269) 259 = some (.istore 6, 2, [], [5, 6, 7]) := by decide +kernel
theorem bf269_261 : am_fetch (am_mth 269) 261 = some (.goto 1172, 3, [], [5, 6, 7]) := by decide +kernel
theorem bf269_264 : am_fetch (am_mth 269) 264 = some (.aload_n 1, 1, [], [5, 6, 7]) := by decide +kernel
theorem bf269_265 : am_fetch (am_mth 269) 265 = some (.aload_n 0, 1, [], [5, 6, 7]) := by decide +kernel
theorem bf269_266 : am_fetch (am_mth 269) 266 = some (.iload 4, 2, [], [5, 6, 7]) := by decide +kernel
theorem bf269_268 : am_fetch (am_mth 269) 268 = some (.iconst 1, 1, [], [5, 6, 7]) := by decide +kernel
theorem bf269_269 : am_fetch (am_mth 269) 269 = some (.iadd, 1, [], [5, 6, 7]) := by decide +kernel
theorem bf269_270 : am_fetch (am_mth 269) 270 = some (.iaload, 1, [], [5, 6, 7]) := by decide +kernel
theorem bf269_271 : am_fetch (am_mth 269) 271 = some (.aload_n 0, 1, [], [5, 6, 7]) := by decide +kernel
theorem bf269_272 : am_fetch (am_mth 269) 272 = some (.iload 4, 2, [], [5, 6, 7]) := by decide +kernel
theorem bf269_274 : am_fetch (am_mth 269) 274 = some (.iconst 2, 1, [], [5, 6, 7]) := by decide +kernel
theorem bf269_275 : am_fetch (am_mth 269) 275 = some (.iadd, 1, [], [5, 6, 7]) := by decide +kernel
theorem bf269_276 : am_fetch (am_mth 269) 276 = some (.iaload, 1, [], [5, 6, 7]) := by decide +kernel
theorem bf269_277 : am_fetch (am_mth 269) 277 = some (.ifCond .eq 7, 3, [], [5, 6, 7]) := by decide +kernel
theorem bf269_280 : am_fetch (am_mth 269) 280 = some (.iconst 1, 1, [], [5, 6, 7]) := by decide +kernel
theorem bf269_281 : am_fetch (am_mth 269) 281 = some (.goto 4, 3, [], [5, 6, 7]) := by decide +kernel
theorem bf269_284 : am_fetch (am_mth 269) 284 = some (.iconst 0, 1, [], [5, 6, 7]) := by decide +kernel
theorem bf269_285 : am_fetch (am_mth 269) 285 = some (.aload_n 0, 1, [], [5, 6, 7]) := by decide +kernel
theorem bf269_286 : am_fetch (am_mth 269) 286 = some (.iload 4, 2, [], [5, 6, 7]) := by decide +kernel
theorem bf269_288 : am_fetch (am_mth 269) 288 = some (.iconst 3, 1, [], [5, 6, 7]) := by decide +kernel
theorem bf269_289 : am_fetch (am_mth 269) 289 = some (.iadd, 1, [], [5, 6, 7]) := by decide +kernel
theorem bf269_290 : am_fetch (am_mth 269) 290 = some (.iaload, 1, [], [5, 6, 7]) := by decide +kernel
theorem bf269_291 : am_fetch (am_mth 269) 291 = some (.ifCond .eq 7, 3, [], [5, 6, 7]) := by decide +kernel
theorem bf269_294 : am_fetch (am_mth 269) 294 = some (.iconst 1, 1, [], [5, 6, 7]) := by decide +kernel
theorem bf269_295 : am_fetch (am_mth 269) 295 = some (.goto 4, 3, [], [5, 6, 7]) := by decide +kernel
theorem bf269_298 : am_fetch (am_mth 269) 298 = some (.iconst 0, 1, [], [5, 6, 7]) := by decide +kernel
theorem bf269_299 : am_fetch (am_mth 269) 299 = some (.aload_n 3, 1, [], [5, 6, 7]) := by decide +kernel
theorem bf269_300 : am_fetch (am_mth 269) 300 = some (.invokestatic 134, 3, [0, 147, 5, 525, 526, 45], [5, 6, 7]) := by decide +kernel
theorem bf269_303 : am_fetch (am_mth 269) 303 = some (.istore 5, 2, [], [5, 6, 7]) := by decide +kernel
theorem bf269_305 : am_fetch (am_mth 269) 305 = some (.aload_n 2, 1, [], [5, 6, 7]) := by decide +kernel
theorem bf269_306 : am_fetch (am_mth 269) 306 = some (.aload_n 0, 1, [], [5, 6, 7]) := by decide +kernel
theorem bf269_307 : am_fetch (am_mth 269) 307 = some (.iload 4, 2, [], [5, 6, 7]) := by decide +kernel
theorem bf269_309 : am_fetch (am_mth 269) 309 = some (.iconst 1, 1, [], [5, 6, 7]) := by decide +kernel
theorem bf269_310 : am_fetch (am_mth 269) 310 = some (.iadd, 1, [], [5, 6, 7]) := by decide +kernel
theorem bf269_311 : am_fetch (am_mth 269) 311 = some (.iaload, 1, [], [5, 6, 7]) := by decide +kernel
theorem bf269_312 : am_fetch (am_mth 269) 312 = some (.aload_n 0, 1, [], [5, 6, 7]) := by decide +kernel
theorem bf269_313 : am_fetch (am_mth 269) 313 = some (.iload 4, 2, [], [5, 6, 7]) := by decide +kernel
theorem bf269_315 : am_fetch (am_mth 269) 315 = some (.iconst 2, 1, [], [5, 6, 7]) := by decide +kernel
theorem bf269_316 : am_fetch (am_mth 269) 316 = some (.iadd, 1, [], [5, 6, 7]) := by decide +kernel
theorem bf269_317 : am_fetch (am_mth 269) 317 = some (.iaload, 1, [], [5, 6, 7]) := by decide +kernel
theorem bf269_318 : am_fetch (am_mth 269) 318 = some (.ifCond .eq 7, 3, [], [5, 6, 7]) := by decide +kernel
theorem bf269_321 : am_fetch (am_mth 269) 321 = some (.iconst 1, 1, [], [5, 6, 7]) := by decide +kernel
theorem bf269_322 : am_fetch (am_mth 269) 322 = some (.goto 4, 3, [], [5, 6, 7]) := by decide +kernel
theorem bf269_325 : am_fetch (am_mth 269) 325 = some (.iconst 0, 1, [], [5, 6, 7]) := by decide +kernel
theorem bf269_326 : am_fetch (am_mth 269) 326 = some (.aload_n 0, 1, [], [5, 6, 7]) := by decide +kernel
theorem bf269_327 : am_fetch (am_mth 269) 327 = some (.iload 4, 2, [], [5, 6, 7]) := by decide +kernel
theorem bf269_329 : am_fetch (am_mth 269) 329 = some (.iconst 3, 1, [], [5, 6, 7]) := by decide +kernel
theorem bf269_330 : am_fetch (am_mth 269) 330 = some (.iadd, 1, [], [5, 6, 7]) := by decide +kernel
theorem bf269_331 : am_fetch (am_mth 269) 331 = some (.iaload, 1, [], [5, 6, 7]) := by decide +kernel
theorem bf269_332 : am_fetch (am_mth 269) 332 = some (.ifCond .eq 7, 3, [], [5, 6, 7]) := by decide +kernel
theorem bf269_335 : am_fetch (am_mth 269) 335 = some (.iconst 1, 1, [], [5, 6, 7]) := by decide +kernel
theorem bf269_336 : am_fetch (am_mth 269) 336 = some (.goto 4, 3, [], [5, 6, 7]) := by decide +kernel
theorem bf269_339 : am_fetch (am_mth 269) 339 = some (.iconst 0, 1, [], [5, 6, 7]) := by decide +kernel
theorem bf269_340 : am_fetch (am_mth 269) 340 = some (.invokevirtual 137, 3, [0, 144, 3, 11, 1280, 1281, 1282, 48], [5, 6, 7]) := by decide +kernel
theorem bf269_343 : am_fetch (am_mth 269) 343 = some (.istore 6, 2, [], [5, 6, 7]) := by decide +kernel
theorem bf269_345 : am_fetch (am_mth 269) 345 = some (.goto 1088, 3, [], [5, 6, 7]) := by decide +kernel
theorem bf269_348 : am_fetch (am_mth 269) 348 = some (.aload_n 1, 1, [], [5, 6, 7]) := by decide +kernel
theorem bf269_349 : am_fetch (am_mth 269) 349 = some (.aload_n 0, 1, [], [5, 6, 7]) := by decide +kernel
theorem bf269_350 : am_fetch (am_mth 269) 350 = some (.iload 4, 2, [], [5, 6, 7]) := by decide +kernel
theorem bf269_352 : am_fetch (am_mth 269) 352 = some (.iconst 1, 1, [], [5, 6, 7]) := by decide +kernel
theorem bf269_353 : am_fetch (am_mth 269) 353 = some (.iadd, 1, [], [5, 6, 7]) := by decide +kernel
theorem bf269_354 : am_fetch (am_mth 269) 354 = some (.iaload, 1, [], [5, 6, 7]) := by decide +kernel
theorem bf269_355 : am_fetch (am_mth 269) 355 = some (.aload_n 0, 1, [], [5, 6, 7]) := by decide +kernel
theorem bf269_356 : am_fetch (am_mth 269) 356 = some (.iload 4, 2, [], [5, 6, 7]) := by decide +kernel
theorem bf269_358 : am_fetch (am_mth 269) 358 = some (.iconst 2, 1, [], [5, 6, 7]) := by decide +kernel
theorem bf269_359 : am_fetch (am_mth 269) 359 = some (.iadd, 1, [], [5, 6, 7]) := by decide +kernel
theorem bf269_360 : am_fetch (am_mth 269) 360 = some (.iaload, 1, [], [5, 6, 7]) := by decide +kernel
theorem bf269_361 : am_fetch (am_mth 269) 361 = some (.aload_n 0, 1, [], [5, 6, 7]) := by decide +kernel
theorem bf269_362 : am_fetch (am_mth 269) 362 = some (.iload 4, 2, [], [5, 6, 7]) := by decide +kernel
theorem bf269_364 : am_fetch (am_mth 269) 364 = some (.iconst 3, 1, [], [5, 6, 7]) := by decide +kernel
theorem bf269_365 : am_fetch (am_mth 269) 365 = some (.iadd, 1, [], [5, 6, 7]) := by decide +kernel
theorem bf269_366 : am_fetch (am_mth 269) 366 = some (.iaload, 1, [], [5, 6, 7]) := by decide +kernel
theorem bf269_367 : am_fetch (am_mth 269) 367 = some (.aload_n 0, 1, [], [5, 6, 7]) := by decide +kernel
theorem bf269_368 : am_fetch (am_mth 269) 368 = some (.iload 4, 2, [], [5, 6, 7]) := by decide +kernel
theorem bf269_370 : am_fetch (am_mth 269) 370 = some (.iconst 4, 1, [], [5, 6, 7]) := by decide +kernel
theorem bf269_371 : am_fetch (am_mth 269) 371 = some (.iadd, 1, [], [5, 6, 7]) := by decide +kernel
theorem bf269_372 : am_fetch (am_mth 269) 372 = some (.iaload, 1, [], [5, 6, 7]) := by decide +kernel
theorem bf269_373 : am_fetch (am_mth 269) 373 = some (.ifCond .eq 7, 3, [], [5, 6, 7]) := by decide +kernel
theorem bf269_376 : am_fetch (am_mth 269) 376 = some (.iconst 1, 1, [], [5, 6, 7]) := by decide +kernel
theorem bf269_377 : am_fetch (am_mth 269) 377 = some (.goto 4, 3, [], [5, 6, 7]) := by decide +kernel
theorem bf269_380 : am_fetch (am_mth 269) 380 = some (.iconst 0, 1, [], [5, 6, 7]) := by decide +kernel
theorem bf269_381 : am_fetch (am_mth 269) 381 = some (.aload_n 3, 1, [], [5, 6, 7]) := by decide +kernel
theorem bf269_382 : am_fetch (am_mth 269) 382 = some (.invokestatic 138, 3, [0, 217, 6, 537, 538, 45], [5, 6, 7]) := by decide +kernel
theorem bf269_385 : am_fetch (am_mth 269) 385 = some (.istore 5, 2, [], [5, 6, 7]) := by decide +kernel
theorem bf269_387 : am_fetch (am_mth 269) 387 = some (.aload_n 2, 1, [], [5, 6, 7]) := by decide +kernel
theorem bf269_388 : am_fetch (am_mth 269) 388 = some (.aload_n 0, 1, [], [5, 6, 7]) := by decide +kernel
theorem bf269_389 : am_fetch (am_mth 269) 389 = some (.iload 4, 2, [], [5, 6, 7]) := by decide +kernel
theorem bf269_391 : am_fetch (am_mth 269) 391 = some (.iconst 1, 1, [], [5, 6, 7]) := by decide +kernel
theorem bf269_392 : am_fetch (am_mth 269) 392 = some (.iadd, 1, [], [5, 6, 7]) := by decide +kernel
theorem bf269_393 : am_fetch (am_mth 269) 393 = some (.iaload, 1, [], [5, 6, 7]) := by decide +kernel
theorem bf269_394 : am_fetch (am_mth 269) 394 = some (.aload_n 0, 1, [], [5, 6, 7]) := by decide +kernel
theorem bf269_395 : am_fetch (am_mth 269) 395 = some (.iload 4, 2, [], [5, 6, 7]) := by decide +kernel
theorem bf269_397 : am_fetch (am_mth 269) 397 = some (.iconst 2, 1, [], [5, 6, 7]) := by decide +kernel
theorem bf269_398 : am_fetch (am_mth 269) 398 = some (.iadd, 1, [], [5, 6, 7]) := by decide +kernel
theorem bf269_399 : am_fetch (am_mth 269) 399 = some (.iaload, 1, [], [5, 6, 7]) := by decide +kernel
theorem bf269_400 : am_fetch (am_mth 269) 400 = some (.aload_n 0, 1, [], [5, 6, 7]) := by decide +kernel
theorem bf269_401 : am_fetch (am_mth 269) 401 = some (.iload 4, 2, [], [5, 6, 7]) := by decide +kernel
theorem bf269_403 : am_fetch (am_mth 269) 403 = some (.iconst 3, 1, [], [5, 6, 7]) := by decide +kernel
theorem bf269_404 : am_fetch (am_mth 269) 404 = some (.iadd, 1, [], [5, 6, 7]) := by decide +kernel
theorem bf269_405 : am_fetch (am_mth 269) 405 = some (.iaload, 1, [], [5, 6, 7]) := by decide +kernel
theorem bf269_406 : am_fetch (am_mth 269) 406 = some (.aload_n 0, 1, [], [5, 6, 7]) := by decide +kernel
theorem bf269_407 : am_fetch (am_mth 269) 407 = some (.iload 4, 2, [], [5, 6, 7]) := by decide +kernel
theorem bf269_409 : am_fetch (am_mth 269) 409 = some (.iconst 4, 1, [], [5, 6, 7]) := by decide +kernel
theorem bf269_410 : am_fetch (am_mth 269) 410 = some (.iadd, 1, [], [5, 6, 7]) := by decide +kernel
theorem bf269_411 : am_fetch (am_mth 269) 411 = some (.iaload, 1, [], [5, 6, 7]) := by decide +kernel
theorem bf269_412 : am_fetch (am_mth 269) 412 = some (.ifCond .eq 7, 3, [], [5, 6, 7]) := by decide +kernel
theorem bf269_415 : am_fetch (am_mth 269) 415 = some (.iconst 1, 1, [], [5, 6, 7]) := by decide +kernel
theorem bf269_416 : am_fetch (am_mth 269) 416 = some (.goto 4, 3, [], [5, 6, 7]) := by decide +kernel
theorem bf269_419 : am_fetch (am_mth 269) 419 = some (.iconst 0, 1, [], [5, 6, 7]) := by decide +kernel
theorem bf269_420 : am_fetch (am_mth 269) 420 = some (.invokevirtual 141, 3, [0, 207, 4, 11, 1287, 1288, 1289, 48], [5, 6, 7]) := by decide +kernel
theorem bf269_423 : am_fetch (am_mth 269) 423 = some (.istore 6, 2, [], [5, 6, 7]) := by decide +kernel
theorem bf269_425 : am_fetch (am_mth 269) 425 = some (.goto 1008, 3, [], [5, 6, 7]) := by decide +kernel
theorem bf269_428 : am_fetch (am_mth 269) 428 = some (.aload_n 1, 1, [], [5, 6, 7]) := by decide +kernel
theorem bf269_429 : am_fetch (am_mth 269) 429 = some (.aload_n 0, 1, [], [5, 6, 7]) := by decide +kernel
theorem bf269_430 : am_fetch (am_mth 269) 430 = some (.iload 4, 2, [], [5, 6, 7]) := by decide +kernel
theorem bf269_432 : am_fetch (am_mth 269) 432 = some (.iconst 1, 1, [], [5, 6, 7]) := by decide +kernel
theorem bf269_433 : am_fetch (am_mth 269) 433 = some (.iadd, 1, [], [5, 6, 7]) := by decide +kernel
theorem bf269_434 : am_fetch (am_mth 269) 434 = some (.iaload, 1, [], [5, 6, 7]) := by decide +kernel
theorem bf269_435 : am_fetch (am_mth 269) 435 = some (.aload_n 0, 1, [], [5, 6, 7]) := by decide +kernel
theorem bf269_436 : am_fetch (am_mth 269) 436 = some (.iload 4, 2, [], [5, 6, 7]) := by decide +kernel
theorem bf269_438 : am_fetch (am_mth 269) 438 = some (.iconst 2, 1, [], [5, 6, 7]) := by decide +kernel
theorem bf269_439 : am_fetch (am_mth 269) 439 = some (.iadd, 1, [], [5, 6, 7]) := by decide +kernel
theorem bf269_440 : am_fetch (am_mth 269) 440 = some (.iaload, 1, [], [5, 6, 7]) := by decide +kernel
theorem bf269_441 : am_fetch (am_mth 269) 441 = some (.ifCond .eq 7, 3, [], [5, 6, 7]) := by decide +kernel
theorem bf269_444 : am_fetch (am_mth 269) 444 = some (.iconst 1, 1, [], [5, 6, 7]) := by decide +kernel
theorem bf269_445 : am_fetch (am_mth 269) 445 = some (.goto 4, 3, [], [5, 6, 7]) := by decide +kernel
theorem bf269_448 : am_fetch (am_mth 269) 448 = some (.iconst 0, 1, [], [5, 6, 7]) := by decide +kernel
theorem bf269_449 : am_fetch (am_mth 269) 449 = some (.aload_n 3, 1, [], [5, 6, 7]) := by decide +kernel
theorem bf269_450 : am_fetch (am_mth 269) 450 = some (.invokestatic 142, 3, [0, 253, 4, 646, 647, 45], [5, 6, 7]) := by decide +kernel
theorem bf269_453 : am_fetch (am_mth 269) 453 = some (.istore 5, 2, [], [5, 6, 7]) := by decide +kernel
theorem bf269_455 : am_fetch (am_mth 269) 455 = some (.aload_n 2, 1, [], [5, 6, 7]) := by decide +kernel
theorem bf269_456 : am_fetch (am_mth 269) 456 = some (.aload_n 0, 1, [], [5, 6, 7]) := by decide +kernel
theorem bf269_457 : am_fetch (am_mth 269) 457 = some (.iload 4, 2, [], [5, 6, 7]) := by decide +kernel
theorem bf269_459 : am_fetch (am_mth 269) 459 = some (.iconst 1, 1, [], [5, 6, 7]) := by decide +kernel
theorem bf269_460 : am_fetch (am_mth 269) 460 = some (.iadd, 1, [], [5, 6, 7]) := by decide +kernel
theorem bf269_461 : am_fetch (am_mth 269) 461 = some (.iaload, 1, [], [5, 6, 7]) := by decide +kernel
theorem bf269_462 : am_fetch (am_mth 269) 462 = some (.aload_n 0, 1, [], [5, 6, 7]) := by decide +kernel
theorem bf269_463 : am_fetch (am_mth 269) 463 = some (.iload 4, 2, [], [5, 6, 7]) := by decide +kernel
theorem bf269_465 : am_fetch (am_mth 269) 465 = some (.iconst 2, 1, [], [5, 6, 7]) := by decide +kernel
theorem bf269_466 : am_fetch (am_mth 269) 466 = some (.iadd, 1, [], [5, 6, 7]) := by decide +kernel
theorem bf269_467 : am_fetch (am_mth 269) 467 = some (.iaload, 1, [], [5, 6, 7]) := by decide +kernel
theorem bf269_468 : am_fetch (am_mth 269) 468 = some (.ifCond .eq 7, 3, [], [5, 6, 7]) := by decide +kernel
theorem bf269_471 : am_fetch (am_mth 269) 471 = some (.iconst 1, 1, [], [5, 6, 7]) := by decide +kernel
theorem bf269_472 : am_fetch (am_mth 269) 472 = some (.goto 4, 3, [], [5, 6, 7]) := by decide +kernel
theorem bf269_475 : am_fetch (am_mth 269) 475 = some (.iconst 0, 1, [], [5, 6, 7]) := by decide +kernel
theorem bf269_476 : am_fetch (am_mth 269) 476 = some (.invokevirtual 145, 3, [0, 260, 2, 11, 1383, 1384, 1385, 48], [5, 6, 7]) := by decide +kernel
theorem bf269_479 : am_fetch (am_mth 269) 479 = some (.istore 6, 2, [], [5, 6, 7]) := by decide +kernel
theorem bf269_481 : am_fetch (am_mth 269) 481 = some (.goto 952, 3, [], [5, 6, 7]) := by decide +kernel
theorem bf269_484 : am_fetch (am_mth 269) 484 = some (.aload_n 1, 1, [], [5, 6, 7]) := by decide +kernel
theorem bf269_485 : am_fetch (am_mth 269) 485 = some (.aload_n 0, 1, [], [5, 6, 7]) := by decide +kernel
theorem bf269_486 : am_fetch (am_mth 269) 486 = some (.iload 4, 2, [], [5, 6, 7]) := by decide +kernel
theorem bf269_488 : am_fetch (am_mth 269) 488 = some (.iconst 1, 1, [], [5, 6, 7]) := by decide +kernel
theorem bf269_489 : am_fetch (am_mth 269) 489 = some (.iadd, 1, [], [5, 6, 7]) := by decide +kernel
theorem bf269_490 : am_fetch (am_mth 269) 490 = some (.iaload, 1, [], [5, 6, 7]) := by decide +kernel
theorem bf269_491 : am_fetch (am_mth 269) 491 = some (.aload_n 0, 1, [], [5, 6, 7]) := by decide +kernel
theorem bf269_492 : am_fetch (am_mth 269) 492 = some (.iload 4, 2, [], [5, 6, 7]) := by decide +kernel
theorem bf269_494 : am_fetch (am_mth 269) 494 = some (.iconst 2, 1, [], [5, 6, 7]) := by decide +kernel
theorem bf269_495 : am_fetch (am_mth 269) 495 = some (.iadd, 1, [], [5, 6, 7]) := by decide +kernel
theorem bf269_496 : am_fetch (am_mth 269) 496 = some (.iaload, 1, [], [5, 6, 7]) := by decide +kernel
theorem bf269_497 : am_fetch (am_mth 269) 497 = some (.ifCond .eq 7, 3, [], [5, 6, 7]) := by decide +kernel
theorem bf269_500 : am_fetch (am_mth 269) 500 = some (.iconst 1, 1, [], [5, 6, 7]) := by decide +kernel
theorem bf269_501 : am_fetch (am_mth 269) 501 = some (.goto 4, 3, [], [5, 6, 7]) := by decide +kernel
theorem bf269_504 : am_fetch (am_mth 269) 504 = some (.iconst 0, 1, [], [5, 6, 7]) := by decide +kernel
theorem bf269_505 : am_fetch (am_mth 269) 505 = some (.aload_n 0, 1, [], [5, 6, 7]) := by decide +kernel
theorem bf269_506 : am_fetch (am_mth 269) 506 = some (.iload 4, 2, [], [5, 6, 7]) := by decide +kernel
theorem bf269_508 : am_fetch (am_mth 269) 508 = some (.iconst 3, 1, [], [5, 6, 7]) := by decide +kernel
theorem bf269_509 : am_fetch (am_mth 269) 509 = some (.iadd, 1, [], [5, 6, 7]) := by decide +kernel
theorem bf269_510 : am_fetch (am_mth 269) 510 = some (.iaload, 1, [], [5, 6, 7]) := by decide +kernel
theorem bf269_511 : am_fetch (am_mth 269) 511 = some (.ifCond .eq 7, 3, [], [5, 6, 7]) := by decide +kernel
theorem bf269_514 : am_fetch (am_mth 269) 514 = some (.iconst 1, 1, [], [5, 6, 7]) := by decide +kernel
theorem bf269_515 : am_fetch (am_mth 269) 515 = some (.goto 4, 3, [], [5, 6, 7]) := by decide +kernel
theorem bf269_518 : am_fetch (am_mth 269) 518 = some (.iconst 0, 1, [], [5, 6, 7]) := by decide +kernel
theorem bf269_519 : am_fetch (am_mth 269) 519 = some (.aload_n 3, 1, [], [5, 6, 7]) := by decide +kernel
theorem bf269_520 : am_fetch (am_mth 269) 520 = some (.invokestatic 146, 3, [0, 254, 5, 716, 717, 45], [5, 6, 7]) := by decide +kernel
theorem bf269_523 : am_fetch (am_mth 269) 523 = some (.istore 5, 2, [], [5, 6, 7]) := by decide +kernel
theorem bf269_525 : am_fetch (am_mth 269) 525 = some (.aload_n 2, 1, [], [5, 6, 7]) := by decide +kernel
theorem bf269_526 : am_fetch (am_mth 269) 526 = some (.aload_n 0, 1, [], [5, 6, 7]) := by decide +kernel
theorem bf269_527 : am_fetch (am_mth 269) 527 = some (.iload 4, 2, [], [5, 6, 7]) := by decide +kernel
theorem bf269_529 : am_fetch (am_mth 269) 529 = some (.iconst 1, 1, [], [5, 6, 7]) := by decide +kernel
theorem bf269_530 : am_fetch (am_mth 269) 530 = some (.iadd, 1, [], [5, 6, 7]) := by decide +kernel
theorem bf269_531 : am_fetch (am_mth 269) 531 = some (.iaload, 1, [], [5, 6, 7]) := by decide +kernel
theorem bf269_532 : am_fetch (am_mth 269) 532 = some (.aload_n 0, 1, [], [5, 6, 7]) := by decide +kernel
theorem bf269_533 : am_fetch (am_mth 269) 533 = some (.iload 4, 2, [], [5, 6, 7]) := by decide +kernel
theorem bf269_535 : am_fetch (am_mth 269) 535 = some (.iconst 2, 1, [], [5, 6, 7]) := by decide +kernel
theorem bf269_536 : am_fetch (am_mth 269) 536 = some (.iadd, 1, [], [5, 6, 7]) := by decide +kernel
theorem bf269_537 : am_fetch (am_mth 269) 537 = some (.iaload, 1, [], [5, 6, 7]) := by decide +kernel
theorem bf269_538 : am_fetch (am_mth 269) 538 = some (.ifCond .eq 7, 3, [], [5, 6, 7]) := by decide +kernel
theorem bf269_541 : am_fetch (am_mth 269) 541 = some (.iconst 1, 1, [], [5, 6, 7]) := by decide +kernel
theorem bf269_542 : am_fetch (am_mth 269) 542 = some (.goto 4, 3, [], [5, 6, 7]) := by decide +kernel
theorem bf269_545 : am_fetch (am_mth 269) 545 = some (.iconst 0, 1, [], [5, 6, 7]) := by decide +kernel
theorem bf269_546 : am_fetch (am_mth 269) 546 = some (.aload_n 0, 1, [], [5, 6, 7]) := by decide +kernel
theorem bf269_547 : am_fetch (am_mth 269) 547 = some (.iload 4, 2, [], [5, 6, 7]) := by decide +kernel
theorem bf269_549 : am_fetch (am_mth 269) 549 = some (.iconst 3, 1, [], [5, 6, 7]) := by decide +kernel
theorem bf269_550 : am_fetch (am_mth 269) 550 = some (.iadd, 1, [], [5, 6, 7]) := by decide +kernel
theorem bf269_551 : am_fetch (am_mth 269) 551 = some (.iaload, 1, [], [5, 6, 7]) := by decide +kernel
theorem bf269_552 : am_fetch (am_mth 269) 552 = some (.ifCond .eq 7, 3, [], [5, 6, 7]) := by decide +kernel
theorem bf269_555 : am_fetch (am_mth 269) 555 = some (.iconst 1, 1, [], [5, 6, 7]) := by decide +kernel
theorem bf269_556 : am_fetch (am_mth 269) 556 = some (.goto 4, 3, [], [5, 6, 7]) := by decide +kernel
theorem bf269_559 : am_fetch (am_mth 269) 559 = some (.iconst 0, 1, [], [5, 6, 7]) := by decide +kernel
theorem bf269_560 : am_fetch (am_mth 269) 560 = some (.invokevirtual 148, 3, [0, 261, 3, 11, 1464, 1465, 1466, 48], [5, 6, 7]) := by decide +kernel
theorem bf269_563 : am_fetch (am_mth 269) 563 = some (.istore 6, 2, [], [5, 6, 7]) := by decide +kernel
theorem bf269_565 : am_fetch (am_mth 269) 565 = some (.goto 868, 3, [], [5, 6, 7]) := by decide +kernel
theorem bf269_568 : am_fetch (am_mth 269) 568 = some (.aload_n 1, 1, [], [5, 6, 7]) := by decide +kernel
theorem bf269_569 : am_fetch (am_mth 269) 569 = some (.aload_n 0, 1, [], [5, 6, 7]) := by decide +kernel
theorem bf269_570 : am_fetch (am_mth 269) 570 = some (.iload 4, 2, [], [5, 6, 7]) := by decide +kernel
theorem bf269_572 : am_fetch (am_mth 269) 572 = some (.iconst 1, 1, [], [5, 6, 7]) := by decide +kernel
theorem bf269_573 : am_fetch (am_mth 269) 573 = some (.iadd, 1, [], [5, 6, 7]) := by decide +kernel
theorem bf269_574 : am_fetch (am_mth 269) 574 = some (.iaload, 1, [], [5, 6, 7]) := by decide +kernel
theorem bf269_575 : am_fetch (am_mth 269) 575 = some (.aload_n 0, 1, [], [5, 6, 7]) := by decide +kernel
theorem bf269_576 : am_fetch (am_mth 269) 576 = some (.iload 4, 2, [], [5, 6, 7]) := by decide +kernel
theorem bf269_578 : am_fetch (am_mth 269) 578 = some (.iconst 2, 1, [], [5, 6, 7]) := by decide +kernel
theorem bf269_579 : am_fetch (am_mth 269) 579 = some (.iadd, 1, [], [5, 6, 7]) := by decide +kernel
theorem bf269_580 : am_fetch (am_mth 269) 580 = some (.iaload, 1, [], [5, 6, 7]) := by decide +kernel
theorem bf269_581 : am_fetch (am_mth 269) 581 = some (.ifCond .eq 7, 3, [], [5, 6, 7]) := by decide +kernel
theorem bf269_584 : am_fetch (am_mth 269) 584 = some (.iconst 1, 1, [], [5, 6, 7]) := by decide +kernel
theorem bf269_585 : am_fetch (am_mth 269) 585 = some (.goto 4, 3, [], [5, 6, 7]) := by decide +kernel
theorem bf269_588 : am_fetch (am_mth 269) 588 = some (.iconst 0, 1, [], [5, 6, 7]) := by decide +kernel
theorem bf269_589 : am_fetch (am_mth 269) 589 = some (.aload_n 3, 1, [], [5, 6, 7]) := by decide +kernel
theorem bf269_590 : am_fetch (am_mth 269) 590 = some (.invokestatic 149, 3, [0, 255, 4, 736, 737, 45], [5, 6, 7]) := by decide +kernel
theorem bf269_593 : am_fetch (am_mth 269) 593 = some (.istore 5, 2, [], [5, 6, 7]) := by decide +kernel
theorem bf269_595 : am_fetch (am_mth 269) 595 = some (.aload_n 2, 1, [], [5, 6, 7]) := by decide +kernel
theorem bf269_596 : am_fetch (am_mth 269) 596 = some (.aload_n 0, 1, [], [5, 6, 7]) := by decide +kernel
theorem bf269_597 : am_fetch (am_mth 269) 597 = some (.iload 4, 2, [], [5, 6, 7]) := by decide +kernel
theorem bf269_599 : am_fetch (am_mth 269) 599 = some (.iconst 1, 1, [], [5, 6, 7]) := by decide +kernel
theorem bf269_600 : am_fetch (am_mth 269) 600 = some (.iadd, 1, [], [5, 6, 7]) := by decide +kernel
theorem bf269_601 : am_fetch (am_mth 269) 601 = some (.iaload, 1, [], [5, 6, 7]) := by decide +kernel
theorem bf269_602 : am_fetch (am_mth 269) 602 = some (.aload_n 0, 1, [], [5, 6, 7]) := by decide +kernel
theorem bf269_603 : am_fetch (am_mth 269) 603 = some (.iload 4, 2, [], [5, 6, 7]) := by decide +kernel
theorem bf269_605 : am_fetch (am_mth 269) 605 = some (.iconst 2, 1, [], [5, 6, 7]) := by decide +kernel
theorem bf269_606 : am_fetch (am_mth 269) 606 = some (.iadd, 1, [], [5, 6, 7]) := by decide +kernel
theorem bf269_607 : am_fetch (am_mth 269) 607 = some (.iaload, 1, [], [5, 6, 7]) := by decide +kernel
theorem bf269_608 : am_fetch (am_mth 269) 608 = some (.ifCond .eq 7, 3, [], [5, 6, 7]) := by decide +kernel
theorem bf269_611 : am_fetch (am_mth 269) 611 = some (.iconst 1, 1, [], [5, 6, 7]) := by decide +kernel
theorem bf269_612 : am_fetch (am_mth 269) 612 = some (.goto 4, 3, [], [5, 6, 7]) := by decide +kernel
theorem bf269_615 : am_fetch (am_mth 269) 615 = some (.iconst 0, 1, [], [5, 6, 7]) := by decide +kernel
theorem bf269_616 : am_fetch (am_mth 269) 616 = some (.invokevirtual 151, 3, [0, 262, 2, 11, 1471, 1472, 1473, 48], [5, 6, 7]) := by decide +kernel
theorem bf269_619 : am_fetch (am_mth 269) 619 = some (.istore 6, 2, [], [5, 6, 7]) := by decide +kernel
theorem bf269_621 : am_fetch (am_mth 269) 621 = some (.goto 812, 3, [], [5, 6, 7]) := by decide +kernel
theorem bf269_624 : am_fetch (am_mth 269) 624 = some (.aload_n 1, 1, [], [5, 6, 7]) := by decide +kernel
theorem bf269_625 : am_fetch (am_mth 269) 625 = some (.aload_n 0, 1, [], [5, 6, 7]) := by decide +kernel
theorem bf269_626 : am_fetch (am_mth 269) 626 = some (.iload 4, 2, [], [5, 6, 7]) := by decide +kernel
theorem bf269_628 : am_fetch (am_mth 269) 628 = some (.iconst 1, 1, [], [5, 6, 7]) := by decide +kernel
theorem bf269_629 : am_fetch (am_mth 269) 629 = some (.iadd, 1, [], [5, 6, 7]) := by decide +kernel
theorem bf269_630 : am_fetch (am_mth 269) 630 = some (.iaload, 1, [], [5, 6, 7]) := by decide +kernel
theorem bf269_631 : am_fetch (am_mth 269) 631 = some (.aload_n 0, 1, [], [5, 6, 7]) := by decide +kernel
theorem bf269_632 : am_fetch (am_mth 269) 632 = some (.iload 4, 2, [], [5, 6, 7]) := by decide +kernel
theorem bf269_634 : am_fetch (am_mth 269) 634 = some (.iconst 2, 1, [], [5, 6, 7]) := by decide +kernel
theorem bf269_635 : am_fetch (am_mth 269) 635 = some (.iadd, 1, [], [5, 6, 7]) := by decide +kernel
theorem bf269_636 : am_fetch (am_mth 269) 636 = some (.iaload, 1, [], [5, 6, 7]) := by decide +kernel
theorem bf269_637 : am_fetch (am_mth 269) 637 = some (.ifCond .eq 7, 3, [], [5, 6, 7]) := by decide +kernel
theorem bf269_640 : am_fetch (am_mth 269) 640 = some (.iconst 1, 1, [], [5, 6, 7]) := by decide +kernel
theorem bf269_641 : am_fetch (am_mth 269) 641 = some (.goto 4, 3, [], [5, 6, 7]) := by decide +kernel
theorem bf269_644 : am_fetch (am_mth 269) 644 = some (.iconst 0, 1, [], [5, 6, 7]) := by decide +kernel
theorem bf269_645 : am_fetch (am_mth 269) 645 = some (.aload_n 3, 1, [], [5, 6, 7]) := by decide +kernel
theorem bf269_646 : am_fetch (am_mth 269) 646 = some (.invokestatic 152, 3, [0, 256, 4, 757, 758, 45], [5, 6, 7]) := by decide +kernel
theorem bf269_649 : am_fetch (am_mth 269) 649 = some (.istore 5, 2, [], [5, 6, 7]) := by decide +kernel
theorem bf269_651 : am_fetch (am_mth 269) 651 = some (.aload_n 2, 1, [], [5, 6, 7]) := by decide +kernel
theorem bf269_652 : am_fetch (am_mth 269) 652 = some (.aload_n 0, 1, [], [5, 6, 7]) := by decide +kernel
theorem bf269_653 : am_fetch (am_mth 269) 653 = some (.iload 4, 2, [], [5, 6, 7]) := by decide +kernel
theorem bf269_655 : am_fetch (am_mth 269) 655 = some (.iconst 1, 1, [], [5, 6, 7]) := by decide +kernel
theorem bf269_656 : am_fetch (am_mth 269) 656 = some (.iadd, 1, [], [5, 6, 7]) := by decide +kernel
theorem bf269_657 : am_fetch (am_mth 269) 657 = some (.iaload, 1, [], [5, 6, 7]) := by decide +kernel
theorem bf269_658 : am_fetch (am_mth 269) 658 = some (.aload_n 0, 1, [], [5, 6, 7]) := by decide +kernel
theorem bf269_659 : am_fetch (am_mth 269) 659 = some (.iload 4, 2, [], [5, 6, 7]) := by decide +kernel
theorem bf269_661 : am_fetch (am_mth 269) 661 = some (.iconst 2, 1, [], [5, 6, 7]) := by decide +kernel
theorem bf269_662 : am_fetch (am_mth 269) 662 = some (.iadd, 1, [], [5, 6, 7]) := by decide +kernel
theorem bf269_663 : am_fetch (am_mth 269) 663 = some (.iaload, 1, [], [5, 6, 7]) := by decide +kernel
theorem bf269_664 : am_fetch (am_mth 269) 664 = some (.ifCond .eq 7, 3, [], [5, 6, 7]) := by decide +kernel
theorem bf269_667 : am_fetch (am_mth 269) 667 = some (.iconst 1, 1, [], [5, 6, 7]) := by decide +kernel
theorem bf269_668 : am_fetch (am_mth 269) 668 = some (.goto 4, 3, [], [5, 6, 7]) := by decide +kernel
theorem bf269_671 : am_fetch (am_mth 269) 671 = some (.iconst 0, 1, [], [5, 6, 7]) := by decide +kernel
theorem bf269_672 : am_fetch (am_mth 269) 672 = some (.invokevirtual 154, 3, [0, 263, 2, 11, 1482, 1483, 1484, 48], [5, 6, 7]) := by decide +kernel
theorem bf269_675 : am_fetch (am_mth 269) 675 = some (.istore 6, 2, [], [5, 6, 7]) := by decide +kernel
theorem bf269_677 : am_fetch (am_mth 269) 677 = some (.goto 756, 3, [], [5, 6, 7]) := by decide +kernel
theorem bf269_680 : am_fetch (am_mth 269) 680 = some (.aload_n 1, 1, [], [5, 6, 7]) := by decide +kernel
theorem bf269_681 : am_fetch (am_mth 269) 681 = some (.aload_n 0, 1, [], [5, 6, 7]) := by decide +kernel
theorem bf269_682 : am_fetch (am_mth 269) 682 = some (.iload 4, 2, [], [5, 6, 7]) := by decide +kernel
theorem bf269_684 : am_fetch (am_mth 269) 684 = some (.iconst 1, 1, [], [5, 6, 7]) := by decide +kernel
theorem bf269_685 : am_fetch (am_mth 269) 685 = some (.iadd, 1, [], [5, 6, 7]) := by decide +kernel
theorem bf269_686 : am_fetch (am_mth 269) 686 = some (.iaload, 1, [], [5, 6, 7]) := by decide +kernel
theorem bf269_687 : am_fetch (am_mth 269) 687 = some (.aload_n 0, 1, [], [5, 6, 7]) := by decide +kernel
theorem bf269_688 : am_fetch (am_mth 269) 688 = some (.iload 4, 2, [], [5, 6, 7]) := by decide +kernel
theorem bf269_690 : am_fetch (am_mth 269) 690 = some (.iconst 2, 1, [], [5, 6, 7]) := by decide +kernel
theorem bf269_691 : am_fetch (am_mth 269) 691 = some (.iadd, 1, [], [5, 6, 7]) := by decide +kernel
theorem bf269_692 : am_fetch (am_mth 269) 692 = some (.iaload, 1, [], [5, 6, 7]) := by decide +kernel
theorem bf269_693 : am_fetch (am_mth 269) 693 = some (.aload_n 3, 1, [], [5, 6, 7]) := by decide +kernel
theorem bf269_694 : am_fetch (am_mth 269) 694 = some (.invokestatic 155, 3, [0, 187, 4, 770, 771, 45], [5, 6, 7]) := by decide +kernel
theorem bf269_697 : am_fetch (am_mth 269) 697 = some (.istore 5, 2, [], [5, 6, 7]) := by decide +kernel
theorem bf269_699 : am_fetch (am_mth 269) 699 = some (.aload_n 2, 1, [], [5, 6, 7]) := by decide +kernel
theorem bf269_700 : am_fetch (am_mth 269) 700 = some (.aload_n 0, 1, [], [5, 6, 7]) := by decide +kernel
theorem bf269_701 : am_fetch (am_mth 269) 701 = some (.iload 4, 2, [], [5, 6, 7]) := by decide +kernel
theorem bf269_703 : am_fetch (am_mth 269) 703 = some (.iconst 1, 1, [], [5, 6, 7]) := by decide +kernel
theorem bf269_704 : am_fetch (am_mth 269) 704 = some (.iadd, 1, [], [5, 6, 7]) := by decide +kernel
theorem bf269_705 : am_fetch (am_mth 269) 705 = some (.iaload, 1, [], [5, 6, 7]) := by decide +kernel
theorem bf269_706 : am_fetch (am_mth 269) 706 = some (.aload_n 0, 1, [], [5, 6, 7]) := by decide +kernel
theorem bf269_707 : am_fetch (am_mth 269) 707 = some (.iload 4, 2, [], [5, 6, 7]) := by decide +kernel
theorem bf269_709 : am_fetch (am_mth 269) 709 = some (.iconst 2, 1, [], [5, 6, 7]) := by decide +kernel
theorem bf269_710 : am_fetch (am_mth 269) 710 = some (.iadd, 1, [], [5, 6, 7]) := by decide +kernel
theorem bf269_711 : am_fetch (am_mth 269) 711 = some (.iaload, 1, [], [5, 6, 7]) := by decide +kernel
theorem bf269_712 : am_fetch (am_mth 269) 712 = some (.invokevirtual 158, 3, [0, 178, 2, 11, 1533, 1534, 1535, 48], [5, 6, 7]) := by decide +kernel
theorem bf269_715 : am_fetch (am_mth 269) 715 = some (.istore 6, 2, [], [5, 6, 7]) := by decide +kernel
theorem bf269_717 : am_fetch (am_mth 269) 717 = some (.goto 716, 3, [], [5, 6, 7]) := by decide +kernel
theorem bf269_720 : am_fetch (am_mth 269) 720 = some (.aload_n 1, 1, [], [5, 6, 7]) := by decide +kernel
theorem bf269_721 : am_fetch (am_mth 269) 721 = some (.aload_n 0, 1, [], [5, 6, 7]) := by decide +kernel
theorem bf269_722 : am_fetch (am_mth 269) 722 = some (.iload 4, 2, [], [5, 6, 7]) := by decide +kernel
theorem bf269_724 : am_fetch (am_mth 269) 724 = some (.iconst 1, 1, [], [5, 6, 7]) := by decide +kernel
theorem bf269_725 : am_fetch (am_mth 269) 725 = some (.iadd, 1, [], [5, 6, 7]) := by decide +kernel
theorem bf269_726 : am_fetch (am_mth 269) 726 = some (.iaload, 1, [], [5, 6, 7]) := by decide +kernel
theorem bf269_727 : am_fetch (am_mth 269) 727 = some (.aload_n 3, 1, [], [5, 6, 7]) := by decide +kernel
theorem bf269_728 : am_fetch (am_mth 269) 728 = some (.invokestatic 159, 3, [0, 188, 3, 778, 779, 45], [5, 6, 7]) := by decide +kernel
theorem bf269_731 : am_fetch (am_mth 269) 731 = some (.istore 5, 2, [], [5, 6, 7]) := by decide +kernel
theorem bf269_733 : am_fetch (am_mth 269) 733 = some (.aload_n 2, 1, [], [5, 6, 7]) := by decide +kernel
theorem bf269_734 : am_fetch (am_mth 269) 734 = some (.aload_n 0, 1, [], [5, 6, 7]) := by decide +kernel
theorem bf269_735 : am_fetch (am_mth 269) 735 = some (.iload 4, 2, [], [5, 6, 7]) := by decide +kernel
theorem bf269_737 : am_fetch (am_mth 269) 737 = some (.iconst 1, 1, [], [5, 6, 7]) := by decide +kernel
theorem bf269_738 : am_fetch (am_mth 269) 738 = some (.iadd, 1, [], [5, 6, 7]) := by decide +kernel
theorem bf269_739 : am_fetch (am_mth 269) 739 = some (.iaload, 1, [], [5, 6, 7]) := by decide +kernel
theorem bf269_740 : am_fetch (am_mth 269) 740 = some (.invokevirtual 161, 3, [0, 179, 1, 11, 1537, 1538, 1539, 48], [5, 6, 7]) := by decide +kernel
theorem bf269_743 : am_fetch (am_mth 269) 743 = some (.istore 6, 2, [], [5, 6, 7]) := by decide +kernel
theorem bf269_745 : am_fetch (am_mth 269) 745 = some (.goto 688, 3, [], [5, 6, 7]) := by decide +kernel
theorem bf269_748 : am_fetch (am_mth 269) 748 = some (.aload_n 1, 1, [], [5, 6, 7]) := by decide +kernel
theorem bf269_749 : am_fetch (am_mth 269) 749 = some (.aload_n 0, 1, [], [5, 6, 7]) := by decide +kernel
theorem bf269_750 : am_fetch (am_mth 269) 750 = some (.iload 4, 2, [], [5, 6, 7]) := by decide +kernel
theorem bf269_752 : am_fetch (am_mth 269) 752 = some (.iconst 1, 1, [], [5, 6, 7]) := by decide +kernel
theorem bf269_753 : am_fetch (am_mth 269) 753 = some (.iadd, 1, [], [5, 6, 7]) := by decide +kernel
theorem bf269_754 : am_fetch (am_mth 269) 754 = some (.iaload, 1, [], [5, 6, 7]) := by decide +kernel
theorem bf269_755 : am_fetch (am_mth 269) 755 = some (.aload_n 0, 1, [], [5, 6, 7]) := by decide +kernel
theorem bf269_756 : am_fetch (am_mth 269) 756 = some (.iload 4, 2, [], [5, 6, 7]) := by decide +kernel
theorem bf269_758 : am_fetch (am_mth 269) 758 = some (.iconst 2, 1, [], [5, 6, 7]) := by decide +kernel
theorem bf269_759 : am_fetch (am_mth 269) 759 = some (.iadd, 1, [], [5, 6, 7]) := by decide +kernel
theorem bf269_760 : am_fetch (am_mth 269) 760 = some (.iaload, 1, [], [5, 6, 7]) := by decide +kernel
theorem bf269_761 : am_fetch (am_mth 269) 761 = some (.aload_n 3, 1, [], [5, 6, 7]) := by decide +kernel
theorem bf269_762 : am_fetch (am_mth 269) 762 = some (.invokestatic 162, 3, [0, 218, 4, 786, 787, 45], [5, 6, 7]) := by decide +kernel
theorem bf269_765 : am_fetch (am_mth 269) 765 = some (.istore 5, 2, [], [5, 6, 7]) := by decide +kernel
theorem bf269_767 : am_fetch (am_mth 269) 767 = some (.aload_n 2, 1, [], [5, 6, 7]) := by decide +kernel
theorem bf269_768 : am_fetch (am_mth 269) 768 = some (.aload_n 0, 1, [], [5, 6, 7]) := by decide +kernel
theorem bf269_769 : am_fetch (am_mth 269) 769 = some (.iload 4, 2, [], [5, 6, 7]) := by decide +kernel
theorem bf269_771 : am_fetch (am_mth 269) 771 = some (.iconst 1, 1, [], [5, 6, 7]) := by decide +kernel
theorem bf269_772 : am_fetch (am_mth 269) 772 = some (.iadd, 1, [], [5, 6, 7]) := by decide +kernel
theorem bf269_773 : am_fetch (am_mth 269) 773 = some (.iaload, 1, [], [5, 6, 7]) := by decide +kernel
theorem bf269_774 : am_fetch (am_mth 269) 774 = some (.aload_n 0, 1, [], [5, 6, 7]) := by decide +kernel
theorem bf269_775 : am_fetch (am_mth 269) 775 = some (.iload 4, 2, [], [5, 6, 7]) := by decide +kernel
theorem bf269_777 : am_fetch (am_mth 269) 777 = some (.iconst 2, 1, [], [5, 6, 7]) := by decide +kernel
theorem bf269_778 : am_fetch (am_mth 269) 778 = some (.iadd, 1, [], [5, 6, 7]) := by decide +kernel
theorem bf269_779 : am_fetch (am_mth 269) 779 = some (.iaload, 1, [], [5, 6, 7]) := by decide +kernel
theorem bf269_780 : am_fetch (am_mth 269) 780 = some (.invokevirtual 164, 3, [0, 180, 2, 11, 1541, 1542, 1543, 48], [5, 6, 7]) := by decide +kernel
theorem bf269_783 : am_fetch (am_mth 269) 783 = some (.istore 6, 2, [], [5, 6, 7]) := by decide +kernel
theorem bf269_785 : am_fetch (am_mth 269) 785 = some (.goto 648, 3, [], [5, 6, 7]) := by decide +kernel
theorem bf269_788 : am_fetch (am_mth 269) 788 = some (.aload_n 1, 1, [], [5, 6, 7]) := by decide +kernel
theorem bf269_789 : am_fetch (am_mth 269) 789 = some (.aload_n 0, 1, [], [5, 6, 7]) := by decide +kernel
theorem bf269_790 : am_fetch (am_mth 269) 790 = some (.iload 4, 2, [], [5, 6, 7]) := by decide +kernel
theorem bf269_792 : am_fetch (am_mth 269) 792 = some (.iconst 1, 1, [], [5, 6, 7]) := by decide +kernel
theorem bf269_793 : am_fetch (am_mth 269) 793 = some (.iadd, 1, [], [5, 6, 7]) := by decide +kernel
theorem bf269_794 : am_fetch (am_mth 269) 794 = some (.iaload, 1, [], [5, 6, 7]) := by decide +kernel
theorem bf269_795 : am_fetch (am_mth 269) 795 = some (.aload_n 3, 1, [], [5, 6, 7]) := by decide +kernel
theorem bf269_796 : am_fetch (am_mth 269) 796 = some (.invokestatic 165, 3, [0, 189, 3, 807, 808, 45], [5, 6, 7]) := by decide +kernel
theorem bf269_799 : am_fetch (am_mth 269) 799 = some (.istore 5, 2, [], [5, 6, 7]) := by decide +kernel
theorem bf269_801 : am_fetch (am_mth 269) 801 = some (.aload_n 2, 1, [], [5, 6, 7]) := by decide +kernel
theorem bf269_802 : am_fetch (am_mth 269) 802 = some (.aload_n 0, 1, [], [5, 6, 7]) := by decide +kernel
theorem bf269_803 : am_fetch (am_mth 269) 803 = some (.iload 4, 2, [], [5, 6, 7]) := by decide +kernel
theorem bf269_805 : am_fetch (am_mth 269) 805 = some (.iconst 1, 1, [], [5, 6, 7]) := by decide +kernel
theorem bf269_806 : am_fetch (am_mth 269) 806 = some (.iadd, 1, [], [5, 6, 7]) := by decide +kernel
theorem bf269_807 : am_fetch (am_mth 269) 807 = some (.iaload, 1, [], [5, 6, 7]) := by decide +kernel
theorem bf269_808 : am_fetch (am_mth 269) 808 = some (.invokevirtual 167, 3, [0, 145, 1, 11, 1545, 1546, 1547, 48], [5, 6, 7]) := by decide +kernel
theorem bf269_811 : am_fetch (am_mth 269) 811 = some (.istore 6, 2, [], [5, 6, 7]) := by decide +kernel
theorem bf269_813 : am_fetch (am_mth 269) 813 = some (.goto 620, 3, [], [5, 6, 7]) := by decide +kernel
theorem bf269_816 : am_fetch (am_mth 269) 816 = some (.aload_n 1, 1, [], [5, 6, 7]) := by decide +kernel
theorem bf269_817 : am_fetch (am_mth 269) 817 = some (.invokevirtual 168, 3, [0, 24, 0, 8, 139, 140, 141, 46], [5, 6, 7]) := by decide +kernel
theorem bf269_820 : am_fetch (am_mth 269) 820 = some (.pop, 1, [], [5, 6, 7]) := by decide +kernel
theorem bf269_821 : am_fetch (am_mth 269) 821 = some (.aload_n 2, 1, [], [5, 6, 7]) := by decide +kernel
theorem bf269_822 : am_fetch (am_mth 269) 822 = some (.invokevirtual 172, 3, [0, 47, 0, 11, 1549, 1550, 1551, 48], [5, 6, 7]) := by decide +kernel
theorem bf269_825 : am_fetch (am_mth 269) 825 = some (.pop, 1, [], [5, 6, 7]) := by decide +kernel
theorem bf269_826 : am_fetch (am_mth 269) 826 = some (.goto 607, 3, [], [5, 6, 7]) := by decide +kernel
theorem bf269_829 : am_fetch (am_mth 269) 829 = some (.aload_n 1, 1, [], [5, 6, 7]) := by decide +kernel
theorem bf269_830 : am_fetch (am_mth 269) 830 = some (.aload_n 0, 1, [], [5, 6, 7]) := by decide +kernel
theorem bf269_831 : am_fetch (am_mth 269) 831 = some (.iload 4, 2, [], [5, 6, 7]) := by decide +kernel
theorem bf269_833 : am_fetch (am_mth 269) 833 = some (.iconst 1, 1, [], [5, 6, 7]) := by decide +kernel
theorem bf269_834 : am_fetch (am_mth 269) 834 = some (.iadd, 1, [], [5, 6, 7]) := by decide +kernel
theorem bf269_835 : am_fetch (am_mth 269) 835 = some (.iaload, 1, [], [5, 6, 7]) := by decide +kernel
theorem bf269_836 : am_fetch (am_mth 269) 836 = some (.aload_n 0, 1, [], [5, 6, 7]) := by decide +kernel
theorem bf269_837 : am_fetch (am_mth 269) 837 = some (.iload 4, 2, [], [5, 6, 7]) := by decide +kernel
theorem bf269_839 : am_fetch (am_mth 269) 839 = some (.iconst 2, 1, [], [5, 6, 7]) := by decide +kernel
theorem bf269_840 : am_fetch (am_mth 269) 840 = some (.iadd, 1, [], [5, 6, 7]) := by decide +kernel
theorem bf269_841 : am_fetch (am_mth 269) 841 = some (.iaload, 1, [], [5, 6, 7]) := by decide +kernel
theorem bf269_842 : am_fetch (am_mth 269) 842 = some (.aload_n 0, 1, [], [5, 6, 7]) := by decide +kernel
theorem bf269_843 : am_fetch (am_mth 269) 843 = some (.iload 4, 2, [], [5, 6, 7]) := by decide +kernel
theorem bf269_845 : am_fetch (am_mth 269) 845 = some (.iconst 3, 1, [], [5, 6, 7]) := by decide +kernel
theorem bf269_846 : am_fetch (am_mth 269) 846 = some (.iadd, 1, [], [5, 6, 7]) := by decide +kernel
theorem bf269_847 : am_fetch (am_mth 269) 847 = some (.iaload, 1, [], [5, 6, 7]) := by decide +kernel
theorem bf269_848 : am_fetch (am_mth 269) 848 = some (.aload_n 3, 1, [], [5, 6, 7]) := by decide +kernel
theorem bf269_849 : am_fetch (am_mth 269) 849 = some (.invokestatic 173, 3, [0, 219, 5, 815, 816, 45], [5, 6, 7]) := by decide +kernel
theorem bf269_852 : am_fetch (am_mth 269) 852 = some (.istore 5, 2, [], [5, 6, 7]) := by decide +kernel
theorem bf269_854 : am_fetch (am_mth 269) 854 = some (.aload_n 2, 1, [], [5, 6, 7]) := by decide +kernel
theorem bf269_855 : am_fetch (am_mth 269) 855 = some (.aload_n 0, 1, [], [5, 6, 7]) := by decide +kernel
theorem bf269_856 : am_fetch (am_mth 269) 856 = some (.iload 4, 2, [], [5, 6, 7]) := by decide +kernel
theorem bf269_858 : am_fetch (am_mth 269) 858 = some (.iconst 1, 1, [], [5, 6, 7]) := by decide +kernel
theorem bf269_859 : am_fetch (am_mth 269) 859 = some (.iadd, 1, [], [5, 6, 7]) := by decide +kernel
theorem bf269_860 : am_fetch (am_mth 269) 860 = some (.iaload, 1, [], [5, 6, 7]) := by decide +kernel
theorem bf269_861 : am_fetch (am_mth 269) 861 = some (.aload_n 0, 1, [], [5, 6, 7]) := by decide +kernel
theorem bf269_862 : am_fetch (am_mth 269) 862 = some (.iload 4, 2, [], [5, 6, 7]) := by decide +kernel
theorem bf269_864 : am_fetch (am_mth 269) 864 = some (.iconst 2, 1, [], [5, 6, 7]) := by decide +kernel
theorem bf269_865 : am_fetch (am_mth 269) 865 = some (.iadd, 1, [], [5, 6, 7]) := by decide +kernel
theorem bf269_866 : am_fetch (am_mth 269) 866 = some (.iaload, 1, [], [5, 6, 7]) := by decide +kernel
theorem bf269_867 : am_fetch (am_mth 269) 867 = some (.aload_n 0, 1, [], [5, 6, 7]) := by decide +kernel
theorem bf269_868 : am_fetch (am_mth 269) 868 = some (.iload 4, 2, [], [5, 6, 7]) := by decide +kernel
theorem bf269_870 : am_fetch (am_mth 269) 870 = some (.iconst 3, 1, [], [5, 6, 7]) := by decide +kernel
theorem bf269_871 : am_fetch (am_mth 269) 871 = some (.iadd, 1, [], [5, 6, 7]) := by decide +kernel
theorem bf269_872 : am_fetch (am_mth 269) 872 = some (.iaload, 1, [], [5, 6, 7]) := by decide +kernel
theorem bf269_873 : am_fetch (am_mth 269) 873 = some (.invokevirtual 176, 3, [0, 212, 3, 11, 1553, 1554, 1555, 48], [5, 6, 7]) := by decide +kernel
theorem bf269_876 : am_fetch (am_mth 269) 876 = some (.istore 6, 2, [], [5, 6, 7]) := by decide +kernel
theorem bf269_878 : am_fetch (am_mth 269) 878 = some (.goto 555, 3, [], [5, 6, 7]) := by decide +kernel
theorem bf269_881 : am_fetch (am_mth 269) 881 = some (.aload_n 1, 1, [], [5, 6, 7]) := by decide +kernel
theorem bf269_882 : am_fetch (am_mth 269) 882 = some (.aload_n 0, 1, [], [5, 6, 7]) := by decide +kernel
theorem bf269_883 : am_fetch (am_mth 269) 883 = some (.iload 4, 2, [], [5, 6, 7]) := by decide +kernel
theorem bf269_885 : am_fetch (am_mth 269) 885 = some (.iconst 1, 1, [], [5, 6, 7]) := by decide +kernel
theorem bf269_886 : am_fetch (am_mth 269) 886 = some (.iadd, 1, [], [5, 6, 7]) := by decide +kernel
theorem bf269_887 : am_fetch (am_mth 269) 887 = some (.iaload, 1, [], [5, 6, 7]) := by decide +kernel
theorem bf269_888 : am_fetch (am_mth 269) 888 = some (.aload_n 0, 1, [], [5, 6, 7]) := by decide +kernel
theorem bf269_889 : am_fetch (am_mth 269) 889 = some (.iload 4, 2, [], [5, 6, 7]) := by decide +kernel
theorem bf269_891 : am_fetch (am_mth 269) 891 = some (.iconst 2, 1, [], [5, 6, 7]) := by decide +kernel
theorem bf269_892 : am_fetch (am_mth 269) 892 = some (.iadd, 1, [], [5, 6, 7]) := by decide +kernel
theorem bf269_893 : am_fetch (am_mth 269) 893 = some (.iaload, 1, [], [5, 6, 7]) := by decide +kernel
theorem bf269_894 : am_fetch (am_mth 269) 894 = some (.aload_n 3, 1, [], [5, 6, 7]) := by decide +kernel
theorem bf269_895 : am_fetch (am_mth 269) 895 = some (.invokestatic 177, 3, [0, 234, 4, 819, 820, 45], [5, 6, 7]) := by decide +kernel
theorem bf269_898 : am_fetch (am_mth 269) 898 = some (.istore 5, 2, [], [5, 6, 7]) := by decide +kernel
theorem bf269_900 : am_fetch (am_mth 269) 900 = some (.aload_n 2, 1, [], [5, 6, 7]) := by decide +kernel
theorem bf269_901 : am_fetch (am_mth 269) 901 = some (.aload_n 0, 1, [], [5, 6, 7]) := by decide +kernel
theorem bf269_902 : am_fetch (am_mth 269) 902 = some (.iload 4, 2, [], [5, 6, 7]) := by decide +kernel
theorem bf269_904 : am_fetch (am_mth 269) 904 = some (.iconst 1, 1, [], [5, 6, 7]) := by decide +kernel
theorem bf269_905 : am_fetch (am_mth 269) 905 = some (.iadd, 1, [], [5, 6, 7]) := by decide +kernel
theorem bf269_906 : am_fetch (am_mth 269) 906 = some (.iaload, 1, [], [5, 6, 7]) := by decide +kernel
theorem bf269_907 : am_fetch (am_mth 269) 907 = some (.aload_n 0, 1, [], [5, 6, 7]) := by decide +kernel
theorem bf269_908 : am_fetch (am_mth 269) 908 = some (.iload 4, 2, [], [5, 6, 7]) := by decide +kernel
theorem bf269_910 : am_fetch (am_mth 269) 910 = some (.iconst 2, 1, [], [5, 6, 7]) := by decide +kernel
theorem bf269_911 : am_fetch (am_mth 269) 911 = some (.iadd, 1, [], [5, 6, 7]) := by decide +kernel
theorem bf269_912 : am_fetch (am_mth 269) 912 = some (.iaload, 1, [], [5, 6, 7]) := by decide +kernel
theorem bf269_913 : am_fetch (am_mth 269) 913 = some (.invokevirtual 179, 3, [0, 182, 2, 11, 1561, 1562, 1563, 48], [5, 6, 7]) := by decide +kernel
theorem bf269_916 : am_fetch (am_mth 269) 916 = some (.istore 6, 2, [], [5, 6, 7]) := by decide +kernel
theorem bf269_918 : am_fetch (am_mth 269) 918 = some (.goto 515, 3, [], [5, 6, 7]) := by decide +kernel
theorem bf269_921 : am_fetch (am_mth 269) 921 = some (.aload_n 1, 1, [], [5, 6, 7]) := by decide +kernel
theorem bf269_922 : am_fetch (am_mth 269) 922 = some (.aload_n 0, 1, [], [5, 6, 7]) := by decide +kernel
theorem bf269_923 : am_fetch (am_mth 269) 923 = some (.iload 4, 2, [], [5, 6, 7]) := by decide +kernel
theorem bf269_925 : am_fetch (am_mth 269) 925 = some (.iconst 1, 1, [], [5, 6, 7]) := by decide +kernel
theorem bf269_926 : am_fetch (am_mth 269) 926 = some (.iadd, 1, [], [5, 6, 7]) := by decide +kernel
theorem bf269_927 : am_fetch (am_mth 269) 927 = some (.iaload, 1, [], [5, 6, 7]) := by decide +kernel
theorem bf269_928 : am_fetch (am_mth 269) 928 = some (.aload_n 3, 1, [], [5, 6, 7]) := by decide +kernel
theorem bf269_929 : am_fetch (am_mth 269) 929 = some (.invokestatic 180, 3, [0, 190, 3, 823, 824, 45], [5, 6, 7]) := by decide +kernel
theorem bf269_932 : am_fetch (am_mth 269) 932 = some (.istore 5, 2, [], [5, 6, 7]) := by decide +kernel
theorem bf269_934 : am_fetch (am_mth 269) 934 = some (.aload_n 2, 1, [], [5, 6, 7]) := by decide +kernel
theorem bf269_935 : am_fetch (am_mth 269) 935 = some (.aload_n 0, 1, [], [5, 6, 7]) := by decide +kernel
theorem bf269_936 : am_fetch (am_mth 269) 936 = some (.iload 4, 2, [], [5, 6, 7]) := by decide +kernel
theorem bf269_938 : am_fetch (am_mth 269) 938 = some (.iconst 1, 1, [], [5, 6, 7]) := by decide +kernel
theorem bf269_939 : am_fetch (am_mth 269) 939 = some (.iadd, 1, [], [5, 6, 7]) := by decide +kernel
theorem bf269_940 : am_fetch (am_mth 269) 940 = some (.iaload, 1, [], [5, 6, 7]) := by decide +kernel
theorem bf269_941 : am_fetch (am_mth 269) 941 = some (.invokevirtual 182, 3, [0, 227, 1, 11, 1569, 1570, 1571, 48], [5, 6, 7]) := by decide +kernel
theorem bf269_944 : am_fetch (am_mth 269) 944 = some (.istore 6, 2, [], [5, 6, 7]) := by decide +kernel
theorem bf269_946 : am_fetch (am_mth 269) 946 = some (.goto 487, 3, [], [5, 6, 7]) := by decide +kernel
theorem bf269_949 : am_fetch (am_mth 269) 949 = some (.aload_n 1, 1, [], [5, 6, 7]) := by decide +kernel
theorem bf269_950 : am_fetch (am_mth 269) 950 = some (.aload_n 0, 1, [], [5, 6, 7]) := by decide +kernel
theorem bf269_951 : am_fetch (am_mth 269) 951 = some (.iload 4, 2, [], [5, 6, 7]) := by decide +kernel
theorem bf269_953 : am_fetch (am_mth 269) 953 = some (.iconst 1, 1, [], [5, 6, 7]) := by decide +kernel
theorem bf269_954 : am_fetch (am_mth 269) 954 = some (.iadd, 1, [], [5, 6, 7]) := by decide +kernel
theorem bf269_955 : am_fetch (am_mth 269) 955 = some (.iaload, 1, [], [5, 6, 7]) := by decide +kernel
theorem bf269_956 : am_fetch (am_mth 269) 956 = some (.aload_n 3, 1, [], [5, 6, 7]) := by decide +kernel
theorem bf269_957 : am_fetch (am_mth 269) 957 = some (.invokestatic 183, 3, [0, 257, 3, 827, 828, 45], [5, 6, 7]) := by decide +kernel
theorem bf269_960 : am_fetch (am_mth 269) 960 = some (.istore 5, 2, [], [5, 6, 7]) := by decide +kernel
theorem bf269_962 : am_fetch (am_mth 269) 962 = some (.aload_n 2, 1, [], [6, 7]) := by decide +kernel
theorem bf269_963 : am_fetch (am_mth 269) 963 = some (.aload_n 0, 1, [], [6, 7]) := by decide +kernel
theorem bf269_964 : am_fetch (am_mth 269) 964 = some (.iload 4, 2, [], [6, 7]) := by decide +kernel
theorem bf269_966 : am_fetch (am_mth 269) 966 = some (.iconst 1, 1, [], [6, 7]) := by decide +kernel
theorem bf269_967 : am_fetch (am_mth 269) 967 = some (.iadd, 1, [], [6, 7]) := by decide +kernel
theorem bf269_968 : am_fetch (am_mth 269) 968 = some (.iaload, 1, [], [6, 7]) := by decide +kernel
theorem bf269_969 : am_fetch (am_mth 269) 969 = some (.invokevirtual 185, 3, [0, 246, 1, 11, 1577, 1578, 1579, 48], [6, 7]) := by decide +kernel
theorem bf269_972 : am_fetch (am_mth 269) 972 = some (.astore 6, 2, [], [6, 7]) := by decide +kernel
theorem bf269_974 : am_fetch (am_mth 269) 974 = some (.aload_n 2, 1, [], [7]) := by decide +kernel
theorem bf269_975 : am_fetch (am_mth 269) 975 = some (.invokevirtual 186, 3, [0, 266, 0, 11, 1234, 1235, 1236, 48], [7]) := by decide +kernel
theorem bf269_978 : am_fetch (am_mth 269) 978 = some (.iload 5, 2, [], [7]) := by decide +kernel
theorem bf269_980 : am_fetch (am_mth 269) 980 = some (.if_icmp .eq 5, 3, [], [7]) := by decide +kernel
theorem bf269_983 : am_fetch (am_mth 269) 983 = some (.iconst 0, 1, [], [0, 1, 2, 3, 4, 5, 6, 7]) := by decide +kernel
theorem bf269_984 : am_fetch (am_mth 269) 984 = some (.ireturn, 1, [1], [0, 1, 2, 3, 4, 5, 6, 7]) := by decide +kernel
theorem bf269_985 : am_fetch (am_mth 269) 985 = some (.iload 5, 2, [], [7]) := by decide +kernel
theorem bf269_987 : am_fetch (am_mth 269) 987 = some (.ifCond .ne 17, 3, [], [5, 7]) := by decide +kernel
theorem bf269_990 : am_fetch (am_mth 269) 990 = some (.aload_n 3, 1, [], [5, 7]) := by decide +kernel
theorem bf269_991 : am_fetch (am_mth 269) 991 = some (.getfield 78, 3, [1, 9, 2, 487], [5, 7]) := by decide +kernel
theorem bf269_994 : am_fetch (am_mth 269) 994 = some (.aload 6, 2, [], [5, 7]) := by decide +kernel
theorem bf269_996 : am_fetch (am_mth 269) 996 = some (.invokevirtual 189, 3, [0, 268, 1, 0, 1701, 1702, 1703, 75], [5, 6, 7]) := by decide +kernel
theorem bf269_999 : am_fetch (am_mth 269) 999 = some (.ifCond .ne 5, 3, [], [5, 6, 7]) := by decide +kernel
theorem bf269_1002 : am_fetch (am_mth 269) 1002 = some (.iconst 0, 1, [], [0, 1, 2, 3, 4, 5, 6, 7]) := by decide +kernel
theorem bf269_1003 : am_fetch (am_mth 269) 1003 = some (.ireturn, 1, [1], [0, 1, 2, 3, 4, 5, 6, 7]) := by decide +kernel
theorem bf269_1004 : am_fetch (am_mth 269) 1004 = some (.goto 429, 3, [], [5, 6, 7]) := by decide +kernel
theorem bf269_1007 : am_fetch (am_mth 269) 1007 = some (.aload_n 1, 1, [], [5, 6, 7]) := by decide +kernel
theorem bf269_1008 : am_fetch (am_mth 269) 1008 = some (.aload_n 0, 1, [], [5, 6, 7]) := by decide +kernel
theorem bf269_1009 : am_fetch (am_mth 269) 1009 = some (.iload 4, 2, [], [5, 6, 7]) := by decide +kernel
theorem bf269_1011 : am_fetch (am_mth 269) 1011 = some (.iconst 1, 1, [], [5, 6, 7]) := by decide +kernel
theorem bf269_1012 : am_fetch (am_mth 269) 1012 = some (.iadd, 1, [], [5, 6, 7]) := by decide +kernel
theorem bf269_1013 : am_fetch (am_mth 269) 1013 = some (.iaload, 1, [], [5, 6, 7]) := by decide +kernel
theorem bf269_1014 : am_fetch (am_mth 269) 1014 = some (.aload_n 0, 1, [], [5, 6, 7]) := by decide +kernel
theorem bf269_1015 : am_fetch (am_mth 269) 1015 = some (.iload 4, 2, [], [5, 6, 7]) := by decide +kernel
theorem bf269_1017 : am_fetch (am_mth 269) 1017 = some (.iconst 2, 1, [], [5, 6, 7]) := by decide +kernel
theorem bf269_1018 : am_fetch (am_mth 269) 1018 = some (.iadd, 1, [], [5, 6, 7]) := by decide +kernel
theorem bf269_1019 : am_fetch (am_mth 269) 1019 = some (.iaload, 1, [], [5, 6, 7]) := by decide +kernel
theorem bf269_1020 : am_fetch (am_mth 269) 1020 = some (.aload_n 0, 1, [], [5, 6, 7]) := by decide +kernel
theorem bf269_1021 : am_fetch (am_mth 269) 1021 = some (.iload 4, 2, [], [5, 6, 7]) := by decide +kernel
theorem bf269_1023 : am_fetch (am_mth 269) 1023 = some (.iconst 3, 1, [], [5, 6, 7]) := by decide +kernel
theorem bf269_1024 : am_fetch (am_mth 269) 1024 = some (.iadd, 1, [], [5, 6, 7]) := by decide +kernel
theorem bf269_1025 : am_fetch (am_mth 269) 1025 = some (.iaload, 1, [], [5, 6, 7]) := by decide +kernel
theorem bf269_1026 : am_fetch (am_mth 269) 1026 = some (.aload_n 3, 1, [], [5, 6, 7]) := by decide +kernel
theorem bf269_1027 : am_fetch (am_mth 269) 1027 = some (.invokestatic 195, 3, [0, 191, 5, 1100, 1101, 45], [5, 6, 7]) := by decide +kernel
theorem bf269_1030 : am_fetch (am_mth 269) 1030 = some (.istore 5, 2, [], [5, 6, 7]) := by decide +kernel
theorem bf269_1032 : am_fetch (am_mth 269) 1032 = some (.aload_n 2, 1, [], [5, 6, 7]) := by decide +kernel
theorem bf269_1033 : am_fetch (am_mth 269) 1033 = some (.aload_n 0, 1, [], [5, 6, 7]) := by decide +kernel
theorem bf269_1034 : am_fetch (am_mth 269) 1034 = some (.iload 4, 2, [], [5, 6, 7]) := by decide +kernel
theorem bf269_1036 : am_fetch (am_mth 269) 1036 = some (.iconst 1, 1, [], [5, 6, 7]) := by decide +kernel
theorem bf269_1037 : am_fetch (am_mth 269) 1037 = some (.iadd, 1, [], [5, 6, 7]) := by decide +kernel
theorem bf269_1038 : am_fetch (am_mth 269) 1038 = some (.iaload, 1, [], [5, 6, 7]) := by decide +kernel
theorem bf269_1039 : am_fetch (am_mth 269) 1039 = some (.aload_n 0, 1, [], [5, 6, 7]) := by decide +kernel
theorem bf269_1040 : am_fetch (am_mth 269) 1040 = some (.iload 4, 2, [], [5, 6, 7]) := by decide +kernel
theorem bf269_1042 : am_fetch (am_mth 269) 1042 = some (.iconst 2, 1, [], [5, 6, 7]) := by decide +kernel
theorem bf269_1043 : am_fetch (am_mth 269) 1043 = some (.iadd, 1, [], [5, 6, 7]) := by decide +kernel
theorem bf269_1044 : am_fetch (am_mth 269) 1044 = some (.iaload, 1, [], [5, 6, 7]) := by decide +kernel
theorem bf269_1045 : am_fetch (am_mth 269) 1045 = some (.aload_n 0, 1, [], [5, 6, 7]) := by decide +kernel
theorem bf269_1046 : am_fetch (am_mth 269) 1046 = some (.iload 4, 2, [], [5, 6, 7]) := by decide +kernel
theorem bf269_1048 : am_fetch (am_mth 269) 1048 = some (.iconst 3, 1, [], [5, 6, 7]) := by decide +kernel
theorem bf269_1049 : am_fetch (am_mth 269) 1049 = some (.iadd, 1, [], [5, 6, 7]) := by decide +kernel
theorem bf269_1050 : am_fetch (am_mth 269) 1050 = some (.iaload, 1, [], [5, 6, 7]) := by decide +kernel
theorem bf269_1051 : am_fetch (am_mth 269) 1051 = some (.invokevirtual 197, 3, [0, 214, 3, 11, 1620, 1621, 1622, 48], [5, 6, 7]) := by decide +kernel
theorem bf269_1054 : am_fetch (am_mth 269) 1054 = some (.istore 6, 2, [], [5, 6, 7]) := by decide +kernel
theorem bf269_1056 : am_fetch (am_mth 269) 1056 = some (.goto 377, 3, [], [5, 6, 7]) := by decide +kernel
theorem bf269_1059 : am_fetch (am_mth 269) 1059 = some (.aload_n 1, 1, [], [5, 6, 7]) := by decide +kernel
theorem bf269_1060 : am_fetch (am_mth 269) 1060 = some (.aload_n 0, 1, [], [5, 6, 7]) := by decide +kernel
theorem bf269_1061 : am_fetch (am_mth 269) 1061 = some (.iload 4, 2, [], [5, 6, 7]) := by decide +kernel
theorem bf269_1063 : am_fetch (am_mth 269) 1063 = some (.iconst 1, 1, [], [5, 6, 7]) := by decide +kernel
theorem bf269_1064 : am_fetch (am_mth 269) 1064 = some (.iadd, 1, [], [5, 6, 7]) := by decide +kernel
theorem bf269_1065 : am_fetch (am_mth 269) 1065 = some (.iaload, 1, [], [5, 6, 7]) := by decide +kernel
theorem bf269_1066 : am_fetch (am_mth 269) 1066 = some (.aload_n 0, 1, [], [5, 6, 7]) := by decide +kernel
theorem bf269_1067 : am_fetch (am_mth 269) 1067 = some (.iload 4, 2, [], [5, 6, 7]) := by decide +kernel
theorem bf269_1069 : am_fetch (am_mth 269) 1069 = some (.iconst 2, 1, [], [5, 6, 7]) := by decide +kernel
theorem bf269_1070 : am_fetch (am_mth 269) 1070 = some (.iadd, 1, [], [5, 6, 7]) := by decide +kernel
theorem bf269_1071 : am_fetch (am_mth 269) 1071 = some (.iaload, 1, [], [5, 6, 7]) := by decide +kernel
theorem bf269_1072 : am_fetch (am_mth 269) 1072 = some (.aload_n 3, 1, [], [5, 6, 7]) := by decide +kernel
theorem bf269_1073 : am_fetch (am_mth 269) 1073 = some (.invokestatic 198, 3, [0, 192, 4, 1104, 1105, 45], [5, 6, 7]) := by decide +kernel
theorem bf269_1076 : am_fetch (am_mth 269) 1076 = some (.istore 5, 2, [], [5, 6, 7]) := by decide +kernel
theorem bf269_1078 : am_fetch (am_mth 269) 1078 = some (.aload_n 2, 1, [], [5, 6, 7]) := by decide +kernel
theorem bf269_1079 : am_fetch (am_mth 269) 1079 = some (.aload_n 0, 1, [], [5, 6, 7]) := by decide +kernel
theorem bf269_1080 : am_fetch (am_mth 269) 1080 = some (.iload 4, 2, [], [5, 6, 7]) := by decide +kernel
theorem bf269_1082 : am_fetch (am_mth 269) 1082 = some (.iconst 1, 1, [], [5, 6, 7]) := by decide +kernel
theorem bf269_1083 : am_fetch (am_mth 269) 1083 = some (.iadd, 1, [], [5, 6, 7]) := by decide +kernel
theorem bf269_1084 : am_fetch (am_mth 269) 1084 = some (.iaload, 1, [], [5, 6, 7]) := by decide +kernel
theorem bf269_1085 : am_fetch (am_mth 269) 1085 = some (.aload_n 0, 1, [], [5, 6, 7]) := by decide +kernel
theorem bf269_1086 : am_fetch (am_mth 269) 1086 = some (.iload 4, 2, [], [5, 6, 7]) := by decide +kernel
theorem bf269_1088 : am_fetch (am_mth 269) 1088 = some (.iconst 2, 1, [], [5, 6, 7]) := by decide +kernel
theorem bf269_1089 : am_fetch (am_mth 269) 1089 = some (.iadd, 1, [], [5, 6, 7]) := by decide +kernel
theorem bf269_1090 : am_fetch (am_mth 269) 1090 = some (.iaload, 1, [], [5, 6, 7]) := by decide +kernel
theorem bf269_1091 : am_fetch (am_mth 269) 1091 = some (.invokevirtual 200, 3, [0, 183, 2, 11, 1624, 1625, 1626, 48], [5, 6, 7]) := by decide +kernel
theorem bf269_1094 : am_fetch (am_mth 269) 1094 = some (.istore 6, 2, [], [5, 6, 7]) := by decide +kernel
theorem bf269_1096 : am_fetch (am_mth 269) 1096 = some (.goto 337, 3, [], [5, 6, 7]) := by decide +kernel
theorem bf269_1099 : am_fetch (am_mth 269) 1099 = some (.aload_n 1, 1, [], [5, 6, 7]) := by decide +kernel
theorem bf269_1100 : am_fetch (am_mth 269) 1100 = some (.aload_n 0, 1, [], [5, 6, 7]) := by decide +kernel
theorem bf269_1101 : am_fetch (am_mth 269) 1101 = some (.iload 4, 2, [], [5, 6, 7]) := by decide +kernel
theorem bf269_1103 : am_fetch (am_mth 269) 1103 = some (.iconst 1, 1, [], [5, 6, 7]) := by decide +kernel
theorem bf269_1104 : am_fetch (am_mth 269) 1104 = some (.iadd, 1, [], [5, 6, 7]) := by decide +kernel
theorem bf269_1105 : am_fetch (am_mth 269) 1105 = some (.iaload, 1, [], [5, 6, 7]) := by decide +kernel
theorem bf269_1106 : am_fetch (am_mth 269) 1106 = some (.aload_n 0, 1, [], [5, 6, 7]) := by decide +kernel
theorem bf269_1107 : am_fetch (am_mth 269) 1107 = some (.iload 4, 2, [], [5, 6, 7]) := by decide +kernel
theorem bf269_1109 : am_fetch (am_mth 269) 1109 = some (.iconst 2, 1, [], [5, 6, 7]) := by decide +kernel
theorem bf269_1110 : am_fetch (am_mth 269) 1110 = some (.iadd, 1, [], [5, 6, 7]) := by decide +kernel
theorem bf269_1111 : am_fetch (am_mth 269) 1111 = some (.iaload, 1, [], [5, 6, 7]) := by decide +kernel
theorem bf269_1112 : am_fetch (am_mth 269) 1112 = some (.aload_n 3, 1, [], [5, 6, 7]) := by decide +kernel
theorem bf269_1113 : am_fetch (am_mth 269) 1113 = some (.invokestatic 201, 3, [0, 193, 4, 1116, 1117, 45], [5, 6, 7]) := by decide +kernel
theorem bf269_1116 : am_fetch (am_mth 269) 1116 = some (.istore 5, 2, [], [5, 6, 7]) := by decide +kernel
theorem bf269_1118 : am_fetch (am_mth 269) 1118 = some (.aload_n 2, 1, [], [5, 6, 7]) := by decide +kernel
theorem bf269_1119 : am_fetch (am_mth 269) 1119 = some (.aload_n 0, 1, [], [5, 6, 7]) := by decide +kernel
theorem bf269_1120 : am_fetch (am_mth 269) 1120 = some (.iload 4, 2, [], [5, 6, 7]) := by decide +kernel
theorem bf269_1122 : am_fetch (am_mth 269) 1122 = some (.iconst 1, 1, [], [5, 6, 7]) := by decide +kernel
theorem bf269_1123 : am_fetch (am_mth 269) 1123 = some (.iadd, 1, [], [5, 6, 7]) := by decide +kernel
theorem bf269_1124 : am_fetch (am_mth 269) 1124 = some (.iaload, 1, [], [5, 6, 7]) := by decide +kernel
theorem bf269_1125 : am_fetch (am_mth 269) 1125 = some (.aload_n 0, 1, [], [5, 6, 7]) := by decide +kernel
theorem bf269_1126 : am_fetch (am_mth 269) 1126 = some (.iload 4, 2, [], [5, 6, 7]) := by decide +kernel
theorem bf269_1128 : am_fetch (am_mth 269) 1128 = some (.iconst 2, 1, [], [5, 6, 7]) := by decide +kernel
theorem bf269_1129 : am_fetch (am_mth 269) 1129 = some (.iadd, 1, [], [5, 6, 7]) := by decide +kernel
theorem bf269_1130 : am_fetch (am_mth 269) 1130 = some (.iaload, 1, [], [5, 6, 7]) := by decide +kernel
theorem bf269_1131 : am_fetch (am_mth 269) 1131 = some (.invokevirtual 203, 3, [0, 184, 2, 11, 1628, 1629, 1630, 48], [5, 6, 7]) := by decide +kernel
theorem bf269_1134 : am_fetch (am_mth 269) 1134 = some (.lstore 6, 2, [], [5, 6, 7]) := by decide +kernel
theorem bf269_1136 : am_fetch (am_mth 269) 1136 = some (.goto 297, 3, [], [5, 6, 7]) := by decide +kernel
theorem bf269_1139 : am_fetch (am_mth 269) 1139 = some (.aload_n 1, 1, [], [5, 6, 7]) := by decide +kernel
theorem bf269_1140 : am_fetch (am_mth 269) 1140 = some (.aload_n 0, 1, [], [5, 6, 7]) := by decide +kernel
theorem bf269_1141 : am_fetch (am_mth 269) 1141 = some (.iload 4, 2, [], [5, 6, 7]) := by decide +kernel
theorem bf269_1143 : am_fetch (am_mth 269) 1143 = some (.iconst 1, 1, [], [5, 6, 7]) := by decide +kernel
theorem bf269_1144 : am_fetch (am_mth 269) 1144 = some (.iadd, 1, [], [5, 6, 7]) := by decide +kernel
theorem bf269_1145 : am_fetch (am_mth 269) 1145 = some (.iaload, 1, [], [5, 6, 7]) := by decide +kernel
theorem bf269_1146 : am_fetch (am_mth 269) 1146 = some (.aload_n 0, 1, [], [5, 6, 7]) := by decide +kernel
theorem bf269_1147 : am_fetch (am_mth 269) 1147 = some (.iload 4, 2, [], [5, 6, 7]) := by decide +kernel
theorem bf269_1149 : am_fetch (am_mth 269) 1149 = some (.iconst 2, 1, [], [5, 6, 7]) := by decide +kernel
theorem bf269_1150 : am_fetch (am_mth 269) 1150 = some (.iadd, 1, [], [5, 6, 7]) := by decide +kernel
theorem bf269_1151 : am_fetch (am_mth 269) 1151 = some (.iaload, 1, [], [5, 6, 7]) := by decide +kernel
theorem bf269_1152 : am_fetch (am_mth 269) 1152 = some (.aload_n 0, 1, [], [5, 6, 7]) := by decide +kernel
theorem bf269_1153 : am_fetch (am_mth 269) 1153 = some (.iload 4, 2, [], [5, 6, 7]) := by decide +kernel
theorem bf269_1155 : am_fetch (am_mth 269) 1155 = some (.iconst 3, 1, [], [5, 6, 7]) := by decide +kernel
theorem bf269_1156 : am_fetch (am_mth 269) 1156 = some (.iadd, 1, [], [5, 6, 7]) := by decide +kernel
theorem bf269_1157 : am_fetch (am_mth 269) 1157 = some (.iaload, 1, [], [5, 6, 7]) := by decide +kernel
theorem bf269_1158 : am_fetch (am_mth 269) 1158 = some (.aload_n 3, 1, [], [5, 6, 7]) := by decide +kernel
theorem bf269_1159 : am_fetch (am_mth 269) 1159 = some (.invokestatic 204, 3, [0, 194, 5, 1120, 1121, 45], [5, 6, 7]) := by decide +kernel
theorem bf269_1162 : am_fetch (am_mth 269) 1162 = some (.istore 5, 2, [], [5, 6, 7]) := by decide +kernel
theorem bf269_1164 : am_fetch (am_mth 269) 1164 = some (.aload_n 2, 1, [], [5, 6, 7]) := by decide +kernel
theorem bf269_1165 : am_fetch (am_mth 269) 1165 = some (.aload_n 0, 1, [], [5, 6, 7]) := by decide +kernel
theorem bf269_1166 : am_fetch (am_mth 269) 1166 = some (.iload 4, 2, [], [5, 6, 7]) := by decide +kernel
theorem bf269_1168 : am_fetch (am_mth 269) 1168 = some (.iconst 1, 1, [], [5, 6, 7]) := by decide +kernel
theorem bf269_1169 : am_fetch (am_mth 269) 1169 = some (.iadd, 1, [], [5, 6, 7]) := by decide +kernel
theorem bf269_1170 : am_fetch (am_mth 269) 1170 = some (.iaload, 1, [], [5, 6, 7]) := by decide +kernel
theorem bf269_1171 : am_fetch (am_mth 269) 1171 = some (.aload_n 0, 1, [], [5, 6, 7]) := by decide +kernel
theorem bf269_1172 : am_fetch (am_mth 269) 1172 = some (.iload 4, 2, [], [5, 6, 7]) := by decide +kernel
theorem bf269_1174 : am_fetch (am_mth 269) 1174 = some (.iconst 2, 1, [], [5, 6, 7]) := by decide +kernel
theorem bf269_1175 : am_fetch (am_mth 269) 1175 = some (.iadd, 1, [], [5, 6, 7]) := by decide +kernel
theorem bf269_1176 : am_fetch (am_mth 269) 1176 = some (.iaload, 1, [], [5, 6, 7]) := by decide +kernel
theorem bf269_1177 : am_fetch (am_mth 269) 1177 = some (.aload_n 0, 1, [], [5, 6, 7]) := by decide +kernel
theorem bf269_1178 : am_fetch (am_mth 269) 1178 = some (.iload 4, 2, [], [5, 6, 7]) := by decide +kernel
theorem bf269_1180 : am_fetch (am_mth 269) 1180 = some (.iconst 3, 1, [], [5, 6, 7]) := by decide +kernel
theorem bf269_1181 : am_fetch (am_mth 269) 1181 = some (.iadd, 1, [], [5, 6, 7]) := by decide +kernel
theorem bf269_1182 : am_fetch (am_mth 269) 1182 = some (.iaload, 1, [], [5, 6, 7]) := by decide +kernel
theorem bf269_1183 : am_fetch (am_mth 269) 1183 = some (.invokevirtual 206, 3, [0, 228, 3, 11, 1636, 1637, 1638, 48], [5, 6, 7]) := by decide +kernel
theorem bf269_1186 : am_fetch (am_mth 269) 1186 = some (.istore 6, 2, [], [5, 6, 7]) := by decide +kernel
theorem bf269_1188 : am_fetch (am_mth 269) 1188 = some (.goto 245, 3, [], [5, 6, 7]) := by decide +kernel
theorem bf269_1191 : am_fetch (am_mth 269) 1191 = some (.aload_n 1, 1, [], [5, 6, 7]) := by decide +kernel
theorem bf269_1192 : am_fetch (am_mth 269) 1192 = some (.aload_n 0, 1, [], [5, 6, 7]) := by decide +kernel
theorem bf269_1193 : am_fetch (am_mth 269) 1193 = some (.iload 4, 2, [], [5, 6, 7]) := by decide +kernel
theorem bf269_1195 : am_fetch (am_mth 269) 1195 = some (.iconst 1, 1, [], [5, 6, 7]) := by decide +kernel
theorem bf269_1196 : am_fetch (am_mth 269) 1196 = some (.iadd, 1, [], [5, 6, 7]) := by decide +kernel
theorem bf269_1197 : am_fetch (am_mth 269) 1197 = some (.iaload, 1, [], [5, 6, 7]) := by decide +kernel
theorem bf269_1198 : am_fetch (am_mth 269) 1198 = some (.aload_n 0, 1, [], [5, 6, 7]) := by decide +kernel
theorem bf269_1199 : am_fetch (am_mth 269) 1199 = some (.iload 4, 2, [], [5, 6, 7]) := by decide +kernel
theorem bf269_1201 : am_fetch (am_mth 269) 1201 = some (.iconst 2, 1, [], [5, 6, 7]) := by decide +kernel
theorem bf269_1202 : am_fetch (am_mth 269) 1202 = some (.iadd, 1, [], [5, 6, 7]) := by decide +kernel
theorem bf269_1203 : am_fetch (am_mth 269) 1203 = some (.iaload, 1, [], [5, 6, 7]) := by decide +kernel
theorem bf269_1204 : am_fetch (am_mth 269) 1204 = some (.aload_n 3, 1, [], [5, 6, 7]) := by decide +kernel
theorem bf269_1205 : am_fetch (am_mth 269) 1205 = some (.invokestatic 207, 3, [0, 249, 4, 1128, 1129, 45], [5, 6, 7]) := by decide +kernel
theorem bf269_1208 : am_fetch (am_mth 269) 1208 = some (.istore 5, 2, [], [5, 6, 7]) := by decide +kernel
theorem bf269_1210 : am_fetch (am_mth 269) 1210 = some (.aload_n 2, 1, [], [5, 6, 7]) := by decide +kernel
theorem bf269_1211 : am_fetch (am_mth 269) 1211 = some (.aload_n 0, 1, [], [5, 6, 7]) := by decide +kernel
theorem bf269_1212 : am_fetch (am_mth 269) 1212 = some (.iload 4, 2, [], [5, 6, 7]) := by decide +kernel
theorem bf269_1214 : am_fetch (am_mth 269) 1214 = some (.iconst 1, 1, [], [5, 6, 7]) := by decide +kernel
theorem bf269_1215 : am_fetch (am_mth 269) 1215 = some (.iadd, 1, [], [5, 6, 7]) := by decide +kernel
theorem bf269_1216 : am_fetch (am_mth 269) 1216 = some (.iaload, 1, [], [5, 6, 7]) := by decide +kernel
theorem bf269_1217 : am_fetch (am_mth 269) 1217 = some (.aload_n 0, 1, [], [5, 6, 7]) := by decide +kernel
theorem bf269_1218 : am_fetch (am_mth 269) 1218 = some (.iload 4, 2, [], [5, 6, 7]) := by decide +kernel
theorem bf269_1220 : am_fetch (am_mth 269) 1220 = some (.iconst 2, 1, [], [5, 6, 7]) := by decide +kernel
theorem bf269_1221 : am_fetch (am_mth 269) 1221 = some (.iadd, 1, [], [5, 6, 7]) := by decide +kernel
theorem bf269_1222 : am_fetch (am_mth 269) 1222 = some (.iaload, 1, [], [5, 6, 7]) := by decide +kernel
theorem bf269_1223 : am_fetch (am_mth 269) 1223 = some (.invokevirtual 209, 3, [0, 264, 2, 11, 1640, 1641, 1642, 48], [5, 6, 7]) := by decide +kernel
theorem bf269_1226 : am_fetch (am_mth 269) 1226 = some (.istore 6, 2, [], [5, 6, 7]) := by decide +kernel
theorem bf269_1228 : am_fetch (am_mth 269) 1228 = some (.goto 205, 3, [], [5, 6, 7]) := by decide +kernel
theorem bf269_1231 : am_fetch (am_mth 269) 1231 = some (.aload_n 1, 1, [], [5, 6, 7]) := by decide +kernel
theorem bf269_1232 : am_fetch (am_mth 269) 1232 = some (.aload_n 0, 1, [], [5, 6, 7]) := by decide +kernel
theorem bf269_1233 : am_fetch (am_mth 269) 1233 = some (.iload 4, 2, [], [5, 6, 7]) := by decide +kernel
theorem bf269_1235 : am_fetch (am_mth 269) 1235 = some (.iconst 1, 1, [], [5, 6, 7]) := by decide +kernel
theorem bf269_1236 : am_fetch (am_mth 269) 1236 = some (.iadd, 1, [], [5, 6, 7]) := by decide +kernel
theorem bf269_1237 : am_fetch (am_mth 269) 1237 = some (.iaload, 1, [], [5, 6, 7]) := by decide +kernel
theorem bf269_1238 : am_fetch (am_mth 269) 1238 = some (.aload_n 3, 1, [], [5, 6, 7]) := by decide +kernel
theorem bf269_1239 : am_fetch (am_mth 269) 1239 = some (.invokestatic 210, 3, [0, 148, 3, 1132, 1133, 45], [5, 6, 7]) := by decide +kernel
theorem bf269_1242 : am_fetch (am_mth 269) 1242 = some (.istore 5, 2, [], [5, 6, 7]) := by decide +kernel
theorem bf269_1244 : am_fetch (am_mth 269) 1244 = some (.aload_n 2, 1, [], [5, 6, 7]) := by decide +kernel
theorem bf269_1245 : am_fetch (am_mth 269) 1245 = some (.aload_n 0, 1, [], [5, 6, 7]) := by decide +kernel
theorem bf269_1246 : am_fetch (am_mth 269) 1246 = some (.iload 4, 2, [], [5, 6, 7]) := by decide +kernel
theorem bf269_1248 : am_fetch (am_mth 269) 1248 = some (.iconst 1, 1, [], [5, 6, 7]) := by decide +kernel
theorem bf269_1249 : am_fetch (am_mth 269) 1249 = some (.iadd, 1, [], [5, 6, 7]) := by decide +kernel
theorem bf269_1250 : am_fetch (am_mth 269) 1250 = some (.iaload, 1, [], [5, 6, 7]) := by decide +kernel
theorem bf269_1251 : am_fetch (am_mth 269) 1251 = some (.invokevirtual 212, 3, [0, 185, 1, 11, 1652, 1653, 1654, 48], [5, 6, 7]) := by decide +kernel
theorem bf269_1254 : am_fetch (am_mth 269) 1254 = some (.dstore 6, 2, [], [5, 6, 7]) := by decide +kernel
theorem bf269_1256 : am_fetch (am_mth 269) 1256 = some (.goto 177, 3, [], [5, 6, 7]) := by decide +kernel
theorem bf269_1259 : am_fetch (am_mth 269) 1259 = some (.aload_n 1, 1, [], [5, 6, 7]) := by decide +kernel
theorem bf269_1260 : am_fetch (am_mth 269) 1260 = some (.aload_n 0, 1, [], [5, 6, 7]) := by decide +kernel
theorem bf269_1261 : am_fetch (am_mth 269) 1261 = some (.iload 4, 2, [], [5, 6, 7]) := by decide +kernel
theorem bf269_1263 : am_fetch (am_mth 269) 1263 = some (.iconst 1, 1, [], [5, 6, 7]) := by decide +kernel
theorem bf269_1264 : am_fetch (am_mth 269) 1264 = some (.iadd, 1, [], [5, 6, 7]) := by decide +kernel
theorem bf269_1265 : am_fetch (am_mth 269) 1265 = some (.iaload, 1, [], [5, 6, 7]) := by decide +kernel
theorem bf269_1266 : am_fetch (am_mth 269) 1266 = some (.aload_n 0, 1, [], [5, 6, 7]) := by decide +kernel
theorem bf269_1267 : am_fetch (am_mth 269) 1267 = some (.iload 4, 2, [], [5, 6, 7]) := by decide +kernel
theorem bf269_1269 : am_fetch (am_mth 269) 1269 = some (.iconst 2, 1, [], [5, 6, 7]) := by decide +kernel
theorem bf269_1270 : am_fetch (am_mth 269) 1270 = some (.iadd, 1, [], [5, 6, 7]) := by decide +kernel
theorem bf269_1271 : am_fetch (am_mth 269) 1271 = some (.iaload, 1, [], [5, 6, 7]) := by decide +kernel
theorem bf269_1272 : am_fetch (am_mth 269) 1272 = some (.aload_n 3, 1, [], [5, 6, 7]) := by decide +kernel
theorem bf269_1273 : am_fetch (am_mth 269) 1273 = some (.invokestatic 213, 3, [0, 235, 4, 1136, 1137, 45], [5, 6, 7]) := by decide +kernel
theorem bf269_1276 : am_fetch (am_mth 269) 1276 = some (.istore 5, 2, [], [5, 6, 7]) := by decide +kernel
theorem bf269_1278 : am_fetch (am_mth 269) 1278 = some (.aload_n 2, 1, [], [5, 6, 7]) := by decide +kernel
theorem bf269_1279 : am_fetch (am_mth 269) 1279 = some (.aload_n 0, 1, [], [5, 6, 7]) := by decide +kernel
theorem bf269_1280 : am_fetch (am_mth 269) 1280 = some (.iload 4, 2, [], [5, 6, 7]) := by decide +kernel
theorem bf269_1282 : am_fetch (am_mth 269) 1282 = some (.iconst 1, 1, [], [5, 6, 7]) := by decide +kernel
theorem bf269_1283 : am_fetch (am_mth 269) 1283 = some (.iadd, 1, [], [5, 6, 7]) := by decide +kernel
theorem bf269_1284 : am_fetch (am_mth 269) 1284 = some (.iaload, 1, [], [5, 6, 7]) := by decide +kernel
theorem bf269_1285 : am_fetch (am_mth 269) 1285 = some (.aload_n 0, 1, [], [5, 6, 7]) := by decide +kernel
theorem bf269_1286 : am_fetch (am_mth 269) 1286 = some (.iload 4, 2, [], [5, 6, 7]) := by decide +kernel
theorem bf269_1288 : am_fetch (am_mth 269) 1288 = some (.iconst 2, 1, [], [5, 6, 7]) := by decide +kernel
theorem bf269_1289 : am_fetch (am_mth 269) 1289 = some (.iadd, 1, [], [5, 6, 7]) := by decide +kernel
theorem bf269_1290 : am_fetch (am_mth 269) 1290 = some (.iaload, 1, [], [5, 6, 7]) := by decide +kernel
theorem bf269_1291 : am_fetch (am_mth 269) 1291 = some (.invokevirtual 215, 3, [0, 247, 2, 11, 1661, 1662, 1663, 48], [5, 6, 7]) := by decide +kernel
theorem bf269_1294 : am_fetch (am_mth 269) 1294 = some (.istore 6, 2, [], [5, 6, 7]) := by decide +kernel
theorem bf269_1296 : am_fetch (am_mth 269) 1296 = some (.goto 137, 3, [], [5, 6, 7]) := by decide +kernel
theorem bf269_1299 : am_fetch (am_mth 269) 1299 = some (.aload_n 1, 1, [], [5, 6, 7]) := by decide +kernel
theorem bf269_1300 : am_fetch (am_mth 269) 1300 = some (.aload_n 0, 1, [], [5, 6, 7]) := by decide +kernel
theorem bf269_1301 : am_fetch (am_mth 269) 1301 = some (.iload 4, 2, [], [5, 6, 7]) := by decide +kernel
theorem bf269_1303 : am_fetch (am_mth 269) 1303 = some (.iconst 1, 1, [], [5, 6, 7]) := by decide +kernel
theorem bf269_1304 : am_fetch (am_mth 269) 1304 = some (.iadd, 1, [], [5, 6, 7]) := by decide +kernel
theorem bf269_1305 : am_fetch (am_mth 269) 1305 = some (.iaload, 1, [], [5, 6, 7]) := by decide +kernel
theorem bf269_1306 : am_fetch (am_mth 269) 1306 = some (.aload_n 3, 1, [], [5, 6, 7]) := by decide +kernel
theorem bf269_1307 : am_fetch (am_mth 269) 1307 = some (.invokestatic 216, 3, [0, 236, 3, 1140, 1141, 45], [5, 6, 7]) := by decide +kernel
theorem bf269_1310 : am_fetch (am_mth 269) 1310 = some (.istore 5, 2, [], [5, 6, 7]) := by decide +kernel
theorem bf269_1312 : am_fetch (am_mth 269) 1312 = some (.aload_n 2, 1, [], [5, 6, 7]) := by decide +kernel
theorem bf269_1313 : am_fetch (am_mth 269) 1313 = some (.aload_n 0, 1, [], [5, 6, 7]) := by decide +kernel
theorem bf269_1314 : am_fetch (am_mth 269) 1314 = some (.iload 4, 2, [], [5, 6, 7]) := by decide +kernel
theorem bf269_1316 : am_fetch (am_mth 269) 1316 = some (.iconst 1, 1, [], [5, 6, 7]) := by decide +kernel
theorem bf269_1317 : am_fetch (am_mth 269) 1317 = some (.iadd, 1, [], [5, 6, 7]) := by decide +kernel
theorem bf269_1318 : am_fetch (am_mth 269) 1318 = some (.iaload, 1, [], [5, 6, 7]) := by decide +kernel
theorem bf269_1319 : am_fetch (am_mth 269) 1319 = some (.invokevirtual 218, 3, [0, 252, 1, 11, 1670, 1671, 1672, 48], [5, 6, 7]) := by decide +kernel
theorem bf269_1322 : am_fetch (am_mth 269) 1322 = some (.istore 6, 2, [], [5, 6, 7]) := by decide +kernel
theorem bf269_1324 : am_fetch (am_mth 269) 1324 = some (.goto 109, 3, [], [5, 6, 7]) := by decide +kernel
theorem bf269_1327 : am_fetch (am_mth 269) 1327 = some (.aload_n 1, 1, [], [5, 6, 7]) := by decide +kernel
theorem bf269_1328 : am_fetch (am_mth 269) 1328 = some (.aload_n 0, 1, [], [5, 6, 7]) := by decide +kernel
theorem bf269_1329 : am_fetch (am_mth 269) 1329 = some (.iload 4, 2, [], [5, 6, 7]) := by decide +kernel
theorem bf269_1331 : am_fetch (am_mth 269) 1331 = some (.iconst 1, 1, [], [5, 6, 7]) := by decide +kernel
theorem bf269_1332 : am_fetch (am_mth 269) 1332 = some (.iadd, 1, [], [5, 6, 7]) := by decide +kernel
theorem bf269_1333 : am_fetch (am_mth 269) 1333 = some (.iaload, 1, [], [5, 6, 7]) := by decide +kernel
theorem bf269_1334 : am_fetch (am_mth 269) 1334 = some (.aload_n 0, 1, [], [5, 6, 7]) := by decide +kernel
theorem bf269_1335 : am_fetch (am_mth 269) 1335 = some (.iload 4, 2, [], [5, 6, 7]) := by decide +kernel
theorem bf269_1337 : am_fetch (am_mth 269) 1337 = some (.iconst 2, 1, [], [5, 6, 7]) := by decide +kernel
theorem bf269_1338 : am_fetch (am_mth 269) 1338 = some (.iadd, 1, [], [5, 6, 7]) := by decide +kernel
theorem bf269_1339 : am_fetch (am_mth 269) 1339 = some (.iaload, 1, [], [5, 6, 7]) := by decide +kernel
theorem bf269_1340 : am_fetch (am_mth 269) 1340 = some (.aload_n 3, 1, [], [5, 6, 7]) := by decide +kernel
theorem bf269_1341 : am_fetch (am_mth 269) 1341 = some (.invokestatic 219, 3, [0, 220, 4, 1144, 1145, 45], [5, 6, 7]) := by decide +kernel
theorem bf269_1344 : am_fetch (am_mth 269) 1344 = some (.istore 5, 2, [], [5, 6, 7]) := by decide +kernel
theorem bf269_1346 : am_fetch (am_mth 269) 1346 = some (.aload_n 2, 1, [], [5, 6, 7]) := by decide +kernel
theorem bf269_1347 : am_fetch (am_mth 269) 1347 = some (.aload_n 0, 1, [], [5, 6, 7]) := by decide +kernel
theorem bf269_1348 : am_fetch (am_mth 269) 1348 = some (.iload 4, 2, [], [5, 6, 7]) := by decide +kernel
theorem bf269_1350 : am_fetch (am_mth 269) 1350 = some (.iconst 1, 1, [], [5, 6, 7]) := by decide +kernel
theorem bf269_1351 : am_fetch (am_mth 269) 1351 = some (.iadd, 1, [], [5, 6, 7]) := by decide +kernel
theorem bf269_1352 : am_fetch (am_mth 269) 1352 = some (.iaload, 1, [], [5, 6, 7]) := by decide +kernel
theorem bf269_1353 : am_fetch (am_mth 269) 1353 = some (.aload_n 0, 1, [], [5, 6, 7]) := by decide +kernel
theorem bf269_1354 : am_fetch (am_mth 269) 1354 = some (.iload 4, 2, [], [5, 6, 7]) := by decide +kernel
theorem bf269_1356 : am_fetch (am_mth 269) 1356 = some (.iconst 2, 1, [], [5, 6, 7]) := by decide +kernel
theorem bf269_1357 : am_fetch (am_mth 269) 1357 = some (.iadd, 1, [], [5, 6, 7]) := by decide +kernel
theorem bf269_1358 : am_fetch (am_mth 269) 1358 = some (.iaload, 1, [], [5, 6, 7]) := by decide +kernel
theorem bf269_1359 : am_fetch (am_mth 269) 1359 = some (.invokevirtual 221, 3, [0, 231, 2, 11, 1678, 1679, 1680, 48], [5, 6, 7]) := by decide +kernel
theorem bf269_1362 : am_fetch (am_mth 269) 1362 = some (.istore 6, 2, [], [5, 6, 7]) := by decide +kernel
theorem bf269_1364 : am_fetch (am_mth 269) 1364 = some (.goto 69, 3, [], [5, 6, 7]) := by decide +kernel
theorem bf269_1367 : am_fetch (am_mth 269) 1367 = some (.aload_n 1, 1, [], [5, 6, 7]) := by decide +kernel
theorem bf269_1368 : am_fetch (am_mth 269) 1368 = some (.aload_n 0, 1, [], [5, 6, 7]) := by decide +kernel
theorem bf269_1369 : am_fetch (am_mth 269) 1369 = some (.iload 4, 2, [], [5, 6, 7]) := by decide +kernel
theorem bf269_1371 : am_fetch (am_mth 269) 1371 = some (.iconst 1, 1, [], [5, 6, 7]) := by decide +kernel
theorem bf269_1372 : am_fetch (am_mth 269) 1372 = some (.iadd, 1, [], [5, 6, 7]) := by decide +kernel
theorem bf269_1373 : am_fetch (am_mth 269) 1373 = some (.iaload, 1, [], [5, 6, 7]) := by decide +kernel
theorem bf269_1374 : am_fetch (am_mth 269) 1374 = some (.aload_n 0, 1, [], [5, 6, 7]) := by decide +kernel
theorem bf269_1375 : am_fetch (am_mth 269) 1375 = some (.iload 4, 2, [], [5, 6, 7]) := by decide +kernel
theorem bf269_1377 : am_fetch (am_mth 269) 1377 = some (.iconst 2, 1, [], [5, 6, 7]) := by decide +kernel
theorem bf269_1378 : am_fetch (am_mth 269) 1378 = some (.iadd, 1, [], [5, 6, 7]) := by decide +kernel
theorem bf269_1379 : am_fetch (am_mth 269) 1379 = some (.iaload, 1, [], [5, 6, 7]) := by decide +kernel
theorem bf269_1380 : am_fetch (am_mth 269) 1380 = some (.aload_n 3, 1, [], [5, 6, 7]) := by decide +kernel
theorem bf269_1381 : am_fetch (am_mth 269) 1381 = some (.invokestatic 222, 3, [0, 237, 4, 1152, 1153, 45], [5, 6, 7]) := by decide +kernel
theorem bf269_1384 : am_fetch (am_mth 269) 1384 = some (.istore 5, 2, [], [5, 6, 7]) := by decide +kernel
theorem bf269_1386 : am_fetch (am_mth 269) 1386 = some (.aload_n 2, 1, [], [5, 6, 7]) := by decide +kernel
theorem bf269_1387 : am_fetch (am_mth 269) 1387 = some (.aload_n 0, 1, [], [5, 6, 7]) := by decide +kernel
theorem bf269_1388 : am_fetch (am_mth 269) 1388 = some (.iload 4, 2, [], [5, 6, 7]) := by decide +kernel
theorem bf269_1390 : am_fetch (am_mth 269) 1390 = some (.iconst 1, 1, [], [5, 6, 7]) := by decide +kernel
theorem bf269_1391 : am_fetch (am_mth 269) 1391 = some (.iadd, 1, [], [5, 6, 7]) := by decide +kernel
theorem bf269_1392 : am_fetch (am_mth 269) 1392 = some (.iaload, 1, [], [5, 6, 7]) := by decide +kernel
theorem bf269_1393 : am_fetch (am_mth 269) 1393 = some (.aload_n 0, 1, [], [5, 6, 7]) := by decide +kernel
theorem bf269_1394 : am_fetch (am_mth 269) 1394 = some (.iload 4, 2, [], [5, 6, 7]) := by decide +kernel
theorem bf269_1396 : am_fetch (am_mth 269) 1396 = some (.iconst 2, 1, [], [5, 6, 7]) := by decide +kernel
theorem bf269_1397 : am_fetch (am_mth 269) 1397 = some (.iadd, 1, [], [5, 6, 7]) := by decide +kernel
theorem bf269_1398 : am_fetch (am_mth 269) 1398 = some (.iaload, 1, [], [5, 6, 7]) := by decide +kernel
theorem bf269_1399 : am_fetch (am_mth 269) 1399 = some (.invokevirtual 224, 3, [0, 232, 2, 11, 1682, 1683, 1684, 48], [5, 6, 7]) := by decide +kernel
theorem bf269_1402 : am_fetch (am_mth 269) 1402 = some (.istore 6, 2, [], [5, 6, 7]) := by decide +kernel
theorem bf269_1404 : am_fetch (am_mth 269) 1404 = some (.goto 29, 3, [], [5, 6, 7]) := by decide +kernel
theorem bf269_1407 : am_fetch (am_mth 269) 1407 = some (.aload_n 1, 1, [], [5, 6, 7]) := by decide +kernel
theorem bf269_1408 : am_fetch (am_mth 269) 1408 = some (.invokevirtual 225, 3, [0, 224, 0, 8, 143, 144, 145, 46], [5, 6, 7]) := by decide +kernel
theorem bf269_1411 : am_fetch (am_mth 269) 1411 = some (.pop, 1, [], [5, 6, 7]) := by decide +kernel
theorem bf269_1412 : am_fetch (am_mth 269) 1412 = some (.aload_n 2, 1, [], [5, 6, 7]) := by decide +kernel
theorem bf269_1413 : am_fetch (am_mth 269) 1413 = some (.invokevirtual 229, 3, [0, 215, 0, 11, 1686, 1687, 1688, 48], [5, 6, 7]) := by decide +kernel
theorem bf269_1416 : am_fetch (am_mth 269) 1416 = some (.pop, 1, [], [5, 6, 7]) := by decide +kernel
theorem bf269_1417 : am_fetch (am_mth 269) 1417 = some (.goto 16, 3, [], [5, 6, 7]) := by decide +kernel
theorem bf269_1420 : am_fetch (am_mth 269) 1420 = some (.aload_n 1, 1, [], [5, 6, 7]) := by decide +kernel
theorem bf269_1421 : am_fetch (am_mth 269) 1421 = some (.invokevirtual 230, 3, [0, 250, 0, 8, 211, 212, 213, 46], [5, 6, 7]) := by decide +kernel
theorem bf269_1424 : am_fetch (am_mth 269) 1424 = some (.pop2, 1, [], [5, 6, 7]) := by decide +kernel
theorem bf269_1425 : am_fetch (am_mth 269) 1425 = some (.aload_n 2, 1, [], [5, 6, 7]) := by decide +kernel
theorem bf269_1426 : am_fetch (am_mth 269) 1426 = some (.invokevirtual 234, 3, [0, 265, 0, 11, 1694, 1695, 1696, 48], [5, 6, 7]) := by decide +kernel
theorem bf269_1429 : am_fetch (am_mth 269) 1429 = some (.pop2, 1, [], [5, 6, 7]) := by decide +kernel
theorem bf269_1430 : am_fetch (am_mth 269) 1430 = some (.goto 3, 3, [], [5, 6, 7]) := by decide +kernel
theorem bf269_1433 : am_fetch (am_mth 269) 1433 = some (.iinc 4 5, 3, [], [5, 6, 7]) := by decide +kernel
theorem bf269_1436 : am_fetch (am_mth 269) 1436 = some (.goto (-1409), 3, [], [5, 6, 7]) := by decide +kernel
theorem bf269_1439 : am_fetch (am_mth 269) 1439 = some (.iconst 1, 1, [], [0, 1, 2, 3, 4, 5, 6, 7]) := by decide +kernel
theorem bf269_1440 : am_fetch (am_mth 269) 1440 = some (.ireturn, 1, [1], [0, 1, 2, 3, 4, 5, 6, 7]) := by decide +kernel
theorem bk269_0 {w : am_Wd} {l0 : Nat} : am_run 269 0 [some (.ref l0), none, none, none, none, none, none, none] [] w = am_run 269 3 [some (.ref l0), none, none, none, none, none, none, none] (.ref w.2.1 :: []) (am_nw w (.inr (8, am_df 8 9)) 9) := by
  exact bn bf269_0 bf269_3 rfl rfl (am_ge_nw _ _ _)
theorem bk269_3 {w : am_Wd} {l0 : Nat} {s0 : Nat} : am_run 269 3 [some (.ref l0), none, none, none, none, none, none, none] [.ref s0] w = (am_x 89 [.ref s0] w).bind fun r => bct r fun v w' => am_run 269 7 [some (.ref l0), none, none, none, none, none, none, none] (v.toList ++ [.ref s0]) w' := by
  refine (bu (ls'' := [some (.ref l0), none, none, none, none, none, none, none]) (st' := [.ref s0, .ref s0]) bf269_3 bf269_4 rfl rfl).trans ?_
  exact bkS bf269_4 bf269_7 rfl (by decide +kernel) (Nat.le_of_ble_eq_true rfl) rfl (bhd rfl)
theorem bk269_7 {w : am_Wd} {l0 : Nat} {s0 : Nat} : am_run 269 7 [some (.ref l0), none, none, none, none, none, none, none] [.ref s0] w = am_run 269 11 [some (.ref l0), some (.ref s0), none, none, none, none, none, none] (.ref w.2.1 :: []) (am_nw w (.inr (11, am_df 11 12)) 12) := by
  refine (bu (ls'' := [some (.ref l0), some (.ref s0), none, none, none, none, none, none]) (st' := []) bf269_7 bf269_8 rfl rfl).trans ?_
  exact bn bf269_8 bf269_11 rfl rfl (am_ge_nw _ _ _)
theorem bk269_11 {w : am_Wd} {l0 : Nat} {l1 : Nat} {s0 : Nat} : am_run 269 11 [some (.ref l0), some (.ref l1), none, none, none, none, none, none] [.ref s0] w = (am_x 172 [.ref s0] w).bind fun r => bct r fun v w' => am_run 269 15 [some (.ref l0), some (.ref l1), none, none, none, none, none, none] (v.toList ++ [.ref s0]) w' := by
  refine (bu (ls'' := [some (.ref l0), some (.ref l1), none, none, none, none, none, none]) (st' := [.ref s0, .ref s0]) bf269_11 bf269_12 rfl rfl).trans ?_
  exact bkS bf269_12 bf269_15 rfl (by decide +kernel) (Nat.le_of_ble_eq_true rfl) rfl (bhd rfl)
theorem bk269_15 {w : am_Wd} {l0 : Nat} {l1 : Nat} {s0 : Nat} : am_run 269 15 [some (.ref l0), some (.ref l1), none, none, none, none, none, none] [.ref s0] w = am_run 269 19 [some (.ref l0), some (.ref l1), some (.ref s0), none, none, none, none, none] (.ref w.2.1 :: []) (am_nw w (.inr (9, am_df 9 3)) 3) := by
  refine (bu (ls'' := [some (.ref l0), some (.ref l1), some (.ref s0), none, none, none, none, none]) (st' := []) bf269_15 bf269_16 rfl rfl).trans ?_
  exact bn bf269_16 bf269_19 rfl rfl (am_ge_nw _ _ _)
theorem bk269_19 {w : am_Wd} {l0 : Nat} {l1 : Nat} {l2 : Nat} {s0 : Nat} : am_run 269 19 [some (.ref l0), some (.ref l1), some (.ref l2), none, none, none, none, none] [.ref s0] w = (am_x 35 [.ref s0] w).bind fun r => bct r fun v w' => am_run 269 23 [some (.ref l0), some (.ref l1), some (.ref l2), none, none, none, none, none] (v.toList ++ [.ref s0]) w' := by
  refine (bu (ls'' := [some (.ref l0), some (.ref l1), some (.ref l2), none, none, none, none, none]) (st' := [.ref s0, .ref s0]) bf269_19 bf269_20 rfl rfl).trans ?_
  exact bkS bf269_20 bf269_23 rfl (by decide +kernel) (Nat.le_of_ble_eq_true rfl) rfl (bhd rfl)
theorem bk269_23 {w : am_Wd} {l0 : Nat} {l1 : Nat} {l2 : Nat} {s0 : Nat} : am_run 269 23 [some (.ref l0), some (.ref l1), some (.ref l2), none, none, none, none, none] [.ref s0] w = am_run 269 27 [some (.ref l0), some (.ref l1), some (.ref l2), some (.ref s0), some (.int (nI 0)), none, none, none] [] w := by
  refine (bu (ls'' := [some (.ref l0), some (.ref l1), some (.ref l2), some (.ref s0), none, none, none, none]) (st' := []) bf269_23 bf269_24 rfl rfl).trans ?_
  refine (bu (ls'' := [some (.ref l0), some (.ref l1), some (.ref l2), some (.ref s0), none, none, none, none]) (st' := [.int (nI 0)]) bf269_24 bf269_25 rfl rfl).trans ?_
  refine (bu (ls'' := [some (.ref l0), some (.ref l1), some (.ref l2), some (.ref s0), some (.int (nI 0)), none, none, none]) (st' := []) bf269_25 bf269_27 rfl rfl).trans ?_
  rfl
theorem bk269_27 {w : am_Wd} {l0 : Nat} {l1 : Nat} {l2 : Nat} {l3 : Nat} {l4 : Int32} : am_run 269 27 [some (.ref l0), some (.ref l1), some (.ref l2), some (.ref l3), some (.int l4), none, none, none] [] w = (am_len w l0).bind fun v => am_run 269 31 [some (.ref l0), some (.ref l1), some (.ref l2), some (.ref l3), some (.int l4), none, none, none] (.int (nI v) :: [.int l4]) w := by
  refine (bu (ls'' := [some (.ref l0), some (.ref l1), some (.ref l2), some (.ref l3), some (.int l4), none, none, none]) (st' := [.int l4]) bf269_27 bf269_29 rfl rfl).trans ?_
  refine (bu (ls'' := [some (.ref l0), some (.ref l1), some (.ref l2), some (.ref l3), some (.int l4), none, none, none]) (st' := [.ref l0, .int l4]) bf269_29 bf269_30 rfl rfl).trans ?_
  exact bh bf269_30 bf269_31 rfl (fun _ _ => am_ge_rf w) rfl
theorem bk269_31 {w : am_Wd} {l0 : Nat} {l1 : Nat} {l2 : Nat} {l3 : Nat} {l4 : Int32} {s0 : Int32} {s1 : Int32} : am_run 269 31 [some (.ref l0), some (.ref l1), some (.ref l2), some (.ref l3), some (.int l4), none, none, none] [.int s0, .int s1] w = if (s0 - (nI 5)) < s1 then am_run 269 1439 [none, none, none, none, none, none, none, none] [] w else am_run 269 36 [some (.ref l0), some (.ref l1), some (.ref l2), some (.ref l3), some (.int l4), none, none, none] [] w := by
  refine (bu (ls'' := [some (.ref l0), some (.ref l1), some (.ref l2), some (.ref l3), some (.int l4), none, none, none]) (st' := [.int (nI 5), .int s0, .int s1]) bf269_31 bf269_32 rfl rfl).trans ?_
  refine (bu (ls'' := [some (.ref l0), some (.ref l1), some (.ref l2), some (.ref l3), some (.int l4), none, none, none]) (st' := [.int (s0 - (nI 5)), .int s1]) bf269_32 bf269_33 rfl rfl).trans ?_
  exact bic bf269_33 rfl bf269_1439 bf269_36 rfl rfl rfl
theorem bk269_1439 {w : am_Wd}  : am_run 269 1439 [none, none, none, none, none, none, none, none] [] w = some (.inl (some (.int (nI 1))), w) := by
  refine (bu (ls'' := [none, none, none, none, none, none, none, none]) (st' := [.int (nI 1)]) bf269_1439 bf269_1440 rfl rfl).trans ?_
  exact am_e2 bf269_1440 rfl (am_ge_rf w)
theorem bk269_36 {w : am_Wd} {l0 : Nat} {l1 : Nat} {l2 : Nat} {l3 : Nat} {l4 : Int32} : am_run 269 36 [some (.ref l0), some (.ref l1), some (.ref l2), some (.ref l3), some (.int l4), none, none, none] [] w = (am_ri 0 w l0 l4).bind fun v => am_run 269 40 [some (.ref l0), some (.ref l1), some (.ref l2), some (.ref l3), some (.int l4), none, none, none] (.int v :: []) w := by
  refine (bu (ls'' := [some (.ref l0), some (.ref l1), some (.ref l2), some (.ref l3), some (.int l4), none, none, none]) (st' := [.ref l0]) bf269_36 bf269_37 rfl rfl).trans ?_
  refine (bu (ls'' := [some (.ref l0), some (.ref l1), some (.ref l2), some (.ref l3), some (.int l4), none, none, none]) (st' := [.int l4, .ref l0]) bf269_37 bf269_39 rfl rfl).trans ?_
  exact bh bf269_39 bf269_40 rfl (fun _ _ => am_ge_rf w) rfl
theorem bk269_40 {w : am_Wd} {l0 : Nat} {l1 : Nat} {l2 : Nat} {l3 : Nat} {l4 : Int32} {s0 : Int32} : am_run 269 40 [some (.ref l0), some (.ref l1), some (.ref l2), some (.ref l3), some (.int l4), none, none, none] [.int s0] w = if (s0 &&& (nI 31)) = (nI 0) then am_run 269 172 [some (.ref l0), some (.ref l1), some (.ref l2), some (.ref l3), some (.int l4), none, none, none] [] w else if (s0 &&& (nI 31)) = (nI 1) then am_run 269 236 [some (.ref l0), some (.ref l1), some (.ref l2), some (.ref l3), some (.int l4), none, none, none] [] w else if (s0 &&& (nI 31)) = (nI 2) then am_run 269 264 [some (.ref l0), some (.ref l1), some (.ref l2), some (.ref l3), some (.int l4), none, none, none] [] w else if (s0 &&& (nI 31)) = (nI 3) then am_run 269 348 [some (.ref l0), some (.ref l1), some (.ref l2), some (.ref l3), some (.int l4), none, none, none] [] w else if (s0 &&& (nI 31)) = (nI 4) then am_run 269 428 [some (.ref l0), some (.ref l1), some (.ref l2), some (.ref l3), some (.int l4), none, none, none] [] w else if (s0 &&& (nI 31)) = (nI 5) then am_run 269 484 [some (.ref l0), some (.ref l1), some (.ref l2), some (.ref l3), some (.int l4), none, none, none] [] w else if (s0 &&& (nI 31)) = (nI 6) then am_run 269 568 [some (.ref l0), some (.ref l1), some (.ref l2), some (.ref l3), some (.int l4), none, none, none] [] w else if (s0 &&& (nI 31)) = (nI 7) then am_run 269 624 [some (.ref l0), some (.ref l1), some (.ref l2), some (.ref l3), some (.int l4), none, none, none] [] w else if (s0 &&& (nI 31)) = (nI 8) then am_run 269 680 [some (.ref l0), some (.ref l1), some (.ref l2), some (.ref l3), some (.int l4), none, none, none] [] w else if (s0 &&& (nI 31)) = (nI 9) then am_run 269 720 [some (.ref l0), some (.ref l1), some (.ref l2), some (.ref l3), some (.int l4), none, none, none] [] w else if (s0 &&& (nI 31)) = (nI 10) then am_run 269 748 [some (.ref l0), some (.ref l1), some (.ref l2), some (.ref l3), some (.int l4), none, none, none] [] w else if (s0 &&& (nI 31)) = (nI 11) then am_run 269 788 [some (.ref l0), some (.ref l1), some (.ref l2), some (.ref l3), some (.int l4), none, none, none] [] w else if (s0 &&& (nI 31)) = (nI 12) then am_run 269 816 [some (.ref l0), some (.ref l1), some (.ref l2), some (.ref l3), some (.int l4), none, none, none] [] w else if (s0 &&& (nI 31)) = (nI 13) then am_run 269 829 [some (.ref l0), some (.ref l1), some (.ref l2), some (.ref l3), some (.int l4), none, none, none] [] w else if (s0 &&& (nI 31)) = (nI 14) then am_run 269 881 [some (.ref l0), some (.ref l1), some (.ref l2), some (.ref l3), some (.int l4), none, none, none] [] w else if (s0 &&& (nI 31)) = (nI 15) then am_run 269 921 [some (.ref l0), some (.ref l1), some (.ref l2), some (.ref l3), some (.int l4), none, none, none] [] w else if (s0 &&& (nI 31)) = (nI 16) then am_run 269 949 [some (.ref l0), some (.ref l1), some (.ref l2), some (.ref l3), some (.int l4), none, none, none] [] w else if (s0 &&& (nI 31)) = (nI 17) then am_run 269 1007 [some (.ref l0), some (.ref l1), some (.ref l2), some (.ref l3), some (.int l4), none, none, none] [] w else if (s0 &&& (nI 31)) = (nI 18) then am_run 269 1059 [some (.ref l0), some (.ref l1), some (.ref l2), some (.ref l3), some (.int l4), none, none, none] [] w else if (s0 &&& (nI 31)) = (nI 19) then am_run 269 1099 [some (.ref l0), some (.ref l1), some (.ref l2), some (.ref l3), some (.int l4), none, none, none] [] w else if (s0 &&& (nI 31)) = (nI 20) then am_run 269 1139 [some (.ref l0), some (.ref l1), some (.ref l2), some (.ref l3), some (.int l4), none, none, none] [] w else if (s0 &&& (nI 31)) = (nI 21) then am_run 269 1191 [some (.ref l0), some (.ref l1), some (.ref l2), some (.ref l3), some (.int l4), none, none, none] [] w else if (s0 &&& (nI 31)) = (nI 22) then am_run 269 1231 [some (.ref l0), some (.ref l1), some (.ref l2), some (.ref l3), some (.int l4), none, none, none] [] w else if (s0 &&& (nI 31)) = (nI 23) then am_run 269 1259 [some (.ref l0), some (.ref l1), some (.ref l2), some (.ref l3), some (.int l4), none, none, none] [] w else if (s0 &&& (nI 31)) = (nI 24) then am_run 269 1299 [some (.ref l0), some (.ref l1), some (.ref l2), some (.ref l3), some (.int l4), none, none, none] [] w else if (s0 &&& (nI 31)) = (nI 25) then am_run 269 1327 [some (.ref l0), some (.ref l1), some (.ref l2), some (.ref l3), some (.int l4), none, none, none] [] w else if (s0 &&& (nI 31)) = (nI 26) then am_run 269 1367 [some (.ref l0), some (.ref l1), some (.ref l2), some (.ref l3), some (.int l4), none, none, none] [] w else if (s0 &&& (nI 31)) = (nI 27) then am_run 269 1407 [some (.ref l0), some (.ref l1), some (.ref l2), some (.ref l3), some (.int l4), none, none, none] [] w else if (s0 &&& (nI 31)) = (nI 28) then am_run 269 1420 [some (.ref l0), some (.ref l1), some (.ref l2), some (.ref l3), some (.int l4), none, none, none] [] w else am_run 269 1433 [some (.ref l0), some (.ref l1), some (.ref l2), some (.ref l3), some (.int l4), none, none, none] [] w := by
  refine (bu (ls'' := [some (.ref l0), some (.ref l1), some (.ref l2), some (.ref l3), some (.int l4), none, none, none]) (st' := [.int (nI 31), .int s0]) bf269_40 bf269_42 rfl rfl).trans ?_
  refine (bu (ls'' := [some (.ref l0), some (.ref l1), some (.ref l2), some (.ref l3), some (.int l4), none, none, none]) (st' := [.int (s0 &&& (nI 31))]) bf269_42 bf269_43 rfl rfl).trans ?_
  refine bsw (fun q => ?_) (fun q0 => ?_)
  · exact bu (ls' := [some (.ref l0), some (.ref l1), some (.ref l2), some (.ref l3), some (.int l4), none, none, none]) (ls'' := [some (.ref l0), some (.ref l1), some (.ref l2), some (.ref l3), some (.int l4), none, none, none]) (st' := []) bf269_43 bf269_172 (by rw [q]; rfl) rfl
  refine bsw (fun q => ?_) (fun q1 => ?_)
  · exact bu (ls' := [some (.ref l0), some (.ref l1), some (.ref l2), some (.ref l3), some (.int l4), none, none, none]) (ls'' := [some (.ref l0), some (.ref l1), some (.ref l2), some (.ref l3), some (.int l4), none, none, none]) (st' := []) bf269_43 bf269_236 (by rw [q]; rfl) rfl
  refine bsw (fun q => ?_) (fun q2 => ?_)
  · exact bu (ls' := [some (.ref l0), some (.ref l1), some (.ref l2), some (.ref l3), some (.int l4), none, none, none]) (ls'' := [some (.ref l0), some (.ref l1), some (.ref l2), some (.ref l3), some (.int l4), none, none, none]) (st' := []) bf269_43 bf269_264 (by rw [q]; rfl) rfl
  refine bsw (fun q => ?_) (fun q3 => ?_)
  · exact bu (ls' := [some (.ref l0), some (.ref l1), some (.ref l2), some (.ref l3), some (.int l4), none, none, none]) (ls'' := [some (.ref l0), some (.ref l1), some (.ref l2), some (.ref l3), some (.int l4), none, none, none]) (st' := []) bf269_43 bf269_348 (by rw [q]; rfl) rfl
  refine bsw (fun q => ?_) (fun q4 => ?_)
  · exact bu (ls' := [some (.ref l0), some (.ref l1), some (.ref l2), some (.ref l3), some (.int l4), none, none, none]) (ls'' := [some (.ref l0), some (.ref l1), some (.ref l2), some (.ref l3), some (.int l4), none, none, none]) (st' := []) bf269_43 bf269_428 (by rw [q]; rfl) rfl
  refine bsw (fun q => ?_) (fun q5 => ?_)
  · exact bu (ls' := [some (.ref l0), some (.ref l1), some (.ref l2), some (.ref l3), some (.int l4), none, none, none]) (ls'' := [some (.ref l0), some (.ref l1), some (.ref l2), some (.ref l3), some (.int l4), none, none, none]) (st' := []) bf269_43 bf269_484 (by rw [q]; rfl) rfl
  refine bsw (fun q => ?_) (fun q6 => ?_)
  · exact bu (ls' := [some (.ref l0), some (.ref l1), some (.ref l2), some (.ref l3), some (.int l4), none, none, none]) (ls'' := [some (.ref l0), some (.ref l1), some (.ref l2), some (.ref l3), some (.int l4), none, none, none]) (st' := []) bf269_43 bf269_568 (by rw [q]; rfl) rfl
  refine bsw (fun q => ?_) (fun q7 => ?_)
  · exact bu (ls' := [some (.ref l0), some (.ref l1), some (.ref l2), some (.ref l3), some (.int l4), none, none, none]) (ls'' := [some (.ref l0), some (.ref l1), some (.ref l2), some (.ref l3), some (.int l4), none, none, none]) (st' := []) bf269_43 bf269_624 (by rw [q]; rfl) rfl
  refine bsw (fun q => ?_) (fun q8 => ?_)
  · exact bu (ls' := [some (.ref l0), some (.ref l1), some (.ref l2), some (.ref l3), some (.int l4), none, none, none]) (ls'' := [some (.ref l0), some (.ref l1), some (.ref l2), some (.ref l3), some (.int l4), none, none, none]) (st' := []) bf269_43 bf269_680 (by rw [q]; rfl) rfl
  refine bsw (fun q => ?_) (fun q9 => ?_)
  · exact bu (ls' := [some (.ref l0), some (.ref l1), some (.ref l2), some (.ref l3), some (.int l4), none, none, none]) (ls'' := [some (.ref l0), some (.ref l1), some (.ref l2), some (.ref l3), some (.int l4), none, none, none]) (st' := []) bf269_43 bf269_720 (by rw [q]; rfl) rfl
  refine bsw (fun q => ?_) (fun q10 => ?_)
  · exact bu (ls' := [some (.ref l0), some (.ref l1), some (.ref l2), some (.ref l3), some (.int l4), none, none, none]) (ls'' := [some (.ref l0), some (.ref l1), some (.ref l2), some (.ref l3), some (.int l4), none, none, none]) (st' := []) bf269_43 bf269_748 (by rw [q]; rfl) rfl
  refine bsw (fun q => ?_) (fun q11 => ?_)
  · exact bu (ls' := [some (.ref l0), some (.ref l1), some (.ref l2), some (.ref l3), some (.int l4), none, none, none]) (ls'' := [some (.ref l0), some (.ref l1), some (.ref l2), some (.ref l3), some (.int l4), none, none, none]) (st' := []) bf269_43 bf269_788 (by rw [q]; rfl) rfl
  refine bsw (fun q => ?_) (fun q12 => ?_)
  · exact bu (ls' := [some (.ref l0), some (.ref l1), some (.ref l2), some (.ref l3), some (.int l4), none, none, none]) (ls'' := [some (.ref l0), some (.ref l1), some (.ref l2), some (.ref l3), some (.int l4), none, none, none]) (st' := []) bf269_43 bf269_816 (by rw [q]; rfl) rfl
  refine bsw (fun q => ?_) (fun q13 => ?_)
  · exact bu (ls' := [some (.ref l0), some (.ref l1), some (.ref l2), some (.ref l3), some (.int l4), none, none, none]) (ls'' := [some (.ref l0), some (.ref l1), some (.ref l2), some (.ref l3), some (.int l4), none, none, none]) (st' := []) bf269_43 bf269_829 (by rw [q]; rfl) rfl
  refine bsw (fun q => ?_) (fun q14 => ?_)
  · exact bu (ls' := [some (.ref l0), some (.ref l1), some (.ref l2), some (.ref l3), some (.int l4), none, none, none]) (ls'' := [some (.ref l0), some (.ref l1), some (.ref l2), some (.ref l3), some (.int l4), none, none, none]) (st' := []) bf269_43 bf269_881 (by rw [q]; rfl) rfl
  refine bsw (fun q => ?_) (fun q15 => ?_)
  · exact bu (ls' := [some (.ref l0), some (.ref l1), some (.ref l2), some (.ref l3), some (.int l4), none, none, none]) (ls'' := [some (.ref l0), some (.ref l1), some (.ref l2), some (.ref l3), some (.int l4), none, none, none]) (st' := []) bf269_43 bf269_921 (by rw [q]; rfl) rfl
  refine bsw (fun q => ?_) (fun q16 => ?_)
  · exact bu (ls' := [some (.ref l0), some (.ref l1), some (.ref l2), some (.ref l3), some (.int l4), none, none, none]) (ls'' := [some (.ref l0), some (.ref l1), some (.ref l2), some (.ref l3), some (.int l4), none, none, none]) (st' := []) bf269_43 bf269_949 (by rw [q]; rfl) rfl
  refine bsw (fun q => ?_) (fun q17 => ?_)
  · exact bu (ls' := [some (.ref l0), some (.ref l1), some (.ref l2), some (.ref l3), some (.int l4), none, none, none]) (ls'' := [some (.ref l0), some (.ref l1), some (.ref l2), some (.ref l3), some (.int l4), none, none, none]) (st' := []) bf269_43 bf269_1007 (by rw [q]; rfl) rfl
  refine bsw (fun q => ?_) (fun q18 => ?_)
  · exact bu (ls' := [some (.ref l0), some (.ref l1), some (.ref l2), some (.ref l3), some (.int l4), none, none, none]) (ls'' := [some (.ref l0), some (.ref l1), some (.ref l2), some (.ref l3), some (.int l4), none, none, none]) (st' := []) bf269_43 bf269_1059 (by rw [q]; rfl) rfl
  refine bsw (fun q => ?_) (fun q19 => ?_)
  · exact bu (ls' := [some (.ref l0), some (.ref l1), some (.ref l2), some (.ref l3), some (.int l4), none, none, none]) (ls'' := [some (.ref l0), some (.ref l1), some (.ref l2), some (.ref l3), some (.int l4), none, none, none]) (st' := []) bf269_43 bf269_1099 (by rw [q]; rfl) rfl
  refine bsw (fun q => ?_) (fun q20 => ?_)
  · exact bu (ls' := [some (.ref l0), some (.ref l1), some (.ref l2), some (.ref l3), some (.int l4), none, none, none]) (ls'' := [some (.ref l0), some (.ref l1), some (.ref l2), some (.ref l3), some (.int l4), none, none, none]) (st' := []) bf269_43 bf269_1139 (by rw [q]; rfl) rfl
  refine bsw (fun q => ?_) (fun q21 => ?_)
  · exact bu (ls' := [some (.ref l0), some (.ref l1), some (.ref l2), some (.ref l3), some (.int l4), none, none, none]) (ls'' := [some (.ref l0), some (.ref l1), some (.ref l2), some (.ref l3), some (.int l4), none, none, none]) (st' := []) bf269_43 bf269_1191 (by rw [q]; rfl) rfl
  refine bsw (fun q => ?_) (fun q22 => ?_)
  · exact bu (ls' := [some (.ref l0), some (.ref l1), some (.ref l2), some (.ref l3), some (.int l4), none, none, none]) (ls'' := [some (.ref l0), some (.ref l1), some (.ref l2), some (.ref l3), some (.int l4), none, none, none]) (st' := []) bf269_43 bf269_1231 (by rw [q]; rfl) rfl
  refine bsw (fun q => ?_) (fun q23 => ?_)
  · exact bu (ls' := [some (.ref l0), some (.ref l1), some (.ref l2), some (.ref l3), some (.int l4), none, none, none]) (ls'' := [some (.ref l0), some (.ref l1), some (.ref l2), some (.ref l3), some (.int l4), none, none, none]) (st' := []) bf269_43 bf269_1259 (by rw [q]; rfl) rfl
  refine bsw (fun q => ?_) (fun q24 => ?_)
  · exact bu (ls' := [some (.ref l0), some (.ref l1), some (.ref l2), some (.ref l3), some (.int l4), none, none, none]) (ls'' := [some (.ref l0), some (.ref l1), some (.ref l2), some (.ref l3), some (.int l4), none, none, none]) (st' := []) bf269_43 bf269_1299 (by rw [q]; rfl) rfl
  refine bsw (fun q => ?_) (fun q25 => ?_)
  · exact bu (ls' := [some (.ref l0), some (.ref l1), some (.ref l2), some (.ref l3), some (.int l4), none, none, none]) (ls'' := [some (.ref l0), some (.ref l1), some (.ref l2), some (.ref l3), some (.int l4), none, none, none]) (st' := []) bf269_43 bf269_1327 (by rw [q]; rfl) rfl
  refine bsw (fun q => ?_) (fun q26 => ?_)
  · exact bu (ls' := [some (.ref l0), some (.ref l1), some (.ref l2), some (.ref l3), some (.int l4), none, none, none]) (ls'' := [some (.ref l0), some (.ref l1), some (.ref l2), some (.ref l3), some (.int l4), none, none, none]) (st' := []) bf269_43 bf269_1367 (by rw [q]; rfl) rfl
  refine bsw (fun q => ?_) (fun q27 => ?_)
  · exact bu (ls' := [some (.ref l0), some (.ref l1), some (.ref l2), some (.ref l3), some (.int l4), none, none, none]) (ls'' := [some (.ref l0), some (.ref l1), some (.ref l2), some (.ref l3), some (.int l4), none, none, none]) (st' := []) bf269_43 bf269_1407 (by rw [q]; rfl) rfl
  refine bsw (fun q => ?_) (fun q28 => ?_)
  · exact bu (ls' := [some (.ref l0), some (.ref l1), some (.ref l2), some (.ref l3), some (.int l4), none, none, none]) (ls'' := [some (.ref l0), some (.ref l1), some (.ref l2), some (.ref l3), some (.int l4), none, none, none]) (st' := []) bf269_43 bf269_1420 (by rw [q]; rfl) rfl
  exact bsd bf269_43 bf269_1433 rfl rfl (bcon (by rfl) q0 (bcon (by rfl) q1 (bcon (by rfl) q2 (bcon (by rfl) q3 (bcon (by rfl) q4 (bcon (by rfl) q5 (bcon (by rfl) q6 (bcon (by rfl) q7 (bcon (by rfl) q8 (bcon (by rfl) q9 (bcon (by rfl) q10 (bcon (by rfl) q11 (bcon (by rfl) q12 (bcon (by rfl) q13 (bcon (by rfl) q14 (bcon (by rfl) q15 (bcon (by rfl) q16 (bcon (by rfl) q17 (bcon (by rfl) q18 (bcon (by rfl) q19 (bcon (by rfl) q20 (bcon (by rfl) q21 (bcon (by rfl) q22 (bcon (by rfl) q23 (bcon (by rfl) q24 (bcon (by rfl) q25 (bcon (by rfl) q26 (bcon (by rfl) q27 (bcon (by rfl) q28 (bnil)))))))))))))))))))))))))))))) rfl
theorem bk269_172 {w : am_Wd} {l0 : Nat} {l1 : Nat} {l2 : Nat} {l3 : Nat} {l4 : Int32} : am_run 269 172 [some (.ref l0), some (.ref l1), some (.ref l2), some (.ref l3), some (.int l4), none, none, none] [] w = (am_ri 0 w l0 (l4 + (nI 1))).bind fun v => am_run 269 179 [some (.ref l0), some (.ref l1), some (.ref l2), some (.ref l3), some (.int l4), none, none, none] (.int v :: [.ref l1]) w := by
  refine (bu (ls'' := [some (.ref l0), some (.ref l1), some (.ref l2), some (.ref l3), some (.int l4), none, none, none]) (st' := [.ref l1]) bf269_172 bf269_173 rfl rfl).trans ?_
  refine (bu (ls'' := [some (.ref l0), some (.ref l1), some (.ref l2), some (.ref l3), some (.int l4), none, none, none]) (st' := [.ref l0, .ref l1]) bf269_173 bf269_174 rfl rfl).trans ?_
  refine (bu (ls'' := [some (.ref l0), some (.ref l1), some (.ref l2), some (.ref l3), some (.int l4), none, none, none]) (st' := [.int l4, .ref l0, .ref l1]) bf269_174 bf269_176 rfl rfl).trans ?_
  refine (bu (ls'' := [some (.ref l0), some (.ref l1), some (.ref l2), some (.ref l3), some (.int l4), none, none, none]) (st' := [.int (nI 1), .int l4, .ref l0, .ref l1]) bf269_176 bf269_177 rfl rfl).trans ?_
  refine (bu (ls'' := [some (.ref l0), some (.ref l1), some (.ref l2), some (.ref l3), some (.int l4), none, none, none]) (st' := [.int (l4 + (nI 1)), .ref l0, .ref l1]) bf269_177 bf269_178 rfl rfl).trans ?_
  exact bh bf269_178 bf269_179 rfl (fun _ _ => am_ge_rf w) rfl
theorem bk269_236 {w : am_Wd} {l0 : Nat} {l1 : Nat} {l2 : Nat} {l3 : Nat} {l4 : Int32} : am_run 269 236 [some (.ref l0), some (.ref l1), some (.ref l2), some (.ref l3), some (.int l4), none, none, none] [] w = (am_ri 0 w l0 (l4 + (nI 1))).bind fun v => am_run 269 243 [some (.ref l0), some (.ref l1), some (.ref l2), some (.ref l3), some (.int l4), none, none, none] (.int v :: [.ref l1]) w := by
  refine (bu (ls'' := [some (.ref l0), some (.ref l1), some (.ref l2), some (.ref l3), some (.int l4), none, none, none]) (st' := [.ref l1]) bf269_236 bf269_237 rfl rfl).trans ?_
  refine (bu (ls'' := [some (.ref l0), some (.ref l1), some (.ref l2), some (.ref l3), some (.int l4), none, none, none]) (st' := [.ref l0, .ref l1]) bf269_237 bf269_238 rfl rfl).trans ?_
  refine (bu (ls'' := [some (.ref l0), some (.ref l1), some (.ref l2), some (.ref l3), some (.int l4), none, none, none]) (st' := [.int l4, .ref l0, .ref l1]) bf269_238 bf269_240 rfl rfl).trans ?_
  refine (bu (ls'' := [some (.ref l0), some (.ref l1), some (.ref l2), some (.ref l3), some (.int l4), none, none, none]) (st' := [.int (nI 1), .int l4, .ref l0, .ref l1]) bf269_240 bf269_241 rfl rfl).trans ?_
  refine (bu (ls'' := [some (.ref l0), some (.ref l1), some (.ref l2), some (.ref l3), some (.int l4), none, none, none]) (st' := [.int (l4 + (nI 1)), .ref l0, .ref l1]) bf269_241 bf269_242 rfl rfl).trans ?_
  exact bh bf269_242 bf269_243 rfl (fun _ _ => am_ge_rf w) rfl
theorem bk269_264 {w : am_Wd} {l0 : Nat} {l1 : Nat} {l2 : Nat} {l3 : Nat} {l4 : Int32} : am_run 269 264 [some (.ref l0), some (.ref l1), some (.ref l2), some (.ref l3), some (.int l4), none, none, none] [] w = (am_ri 0 w l0 (l4 + (nI 1))).bind fun v => am_run 269 271 [some (.ref l0), some (.ref l1), some (.ref l2), some (.ref l3), some (.int l4), none, none, none] (.int v :: [.ref l1]) w := by
  refine (bu (ls'' := [some (.ref l0), some (.ref l1), some (.ref l2), some (.ref l3), some (.int l4), none, none, none]) (st' := [.ref l1]) bf269_264 bf269_265 rfl rfl).trans ?_
  refine (bu (ls'' := [some (.ref l0), some (.ref l1), some (.ref l2), some (.ref l3), some (.int l4), none, none, none]) (st' := [.ref l0, .ref l1]) bf269_265 bf269_266 rfl rfl).trans ?_
  refine (bu (ls'' := [some (.ref l0), some (.ref l1), some (.ref l2), some (.ref l3), some (.int l4), none, none, none]) (st' := [.int l4, .ref l0, .ref l1]) bf269_266 bf269_268 rfl rfl).trans ?_
  refine (bu (ls'' := [some (.ref l0), some (.ref l1), some (.ref l2), some (.ref l3), some (.int l4), none, none, none]) (st' := [.int (nI 1), .int l4, .ref l0, .ref l1]) bf269_268 bf269_269 rfl rfl).trans ?_
  refine (bu (ls'' := [some (.ref l0), some (.ref l1), some (.ref l2), some (.ref l3), some (.int l4), none, none, none]) (st' := [.int (l4 + (nI 1)), .ref l0, .ref l1]) bf269_269 bf269_270 rfl rfl).trans ?_
  exact bh bf269_270 bf269_271 rfl (fun _ _ => am_ge_rf w) rfl
theorem bk269_348 {w : am_Wd} {l0 : Nat} {l1 : Nat} {l2 : Nat} {l3 : Nat} {l4 : Int32} : am_run 269 348 [some (.ref l0), some (.ref l1), some (.ref l2), some (.ref l3), some (.int l4), none, none, none] [] w = (am_ri 0 w l0 (l4 + (nI 1))).bind fun v => am_run 269 355 [some (.ref l0), some (.ref l1), some (.ref l2), some (.ref l3), some (.int l4), none, none, none] (.int v :: [.ref l1]) w := by
  refine (bu (ls'' := [some (.ref l0), some (.ref l1), some (.ref l2), some (.ref l3), some (.int l4), none, none, none]) (st' := [.ref l1]) bf269_348 bf269_349 rfl rfl).trans ?_
  refine (bu (ls'' := [some (.ref l0), some (.ref l1), some (.ref l2), some (.ref l3), some (.int l4), none, none, none]) (st' := [.ref l0, .ref l1]) bf269_349 bf269_350 rfl rfl).trans ?_
  refine (bu (ls'' := [some (.ref l0), some (.ref l1), some (.ref l2), some (.ref l3), some (.int l4), none, none, none]) (st' := [.int l4, .ref l0, .ref l1]) bf269_350 bf269_352 rfl rfl).trans ?_
  refine (bu (ls'' := [some (.ref l0), some (.ref l1), some (.ref l2), some (.ref l3), some (.int l4), none, none, none]) (st' := [.int (nI 1), .int l4, .ref l0, .ref l1]) bf269_352 bf269_353 rfl rfl).trans ?_
  refine (bu (ls'' := [some (.ref l0), some (.ref l1), some (.ref l2), some (.ref l3), some (.int l4), none, none, none]) (st' := [.int (l4 + (nI 1)), .ref l0, .ref l1]) bf269_353 bf269_354 rfl rfl).trans ?_
  exact bh bf269_354 bf269_355 rfl (fun _ _ => am_ge_rf w) rfl
theorem bk269_428 {w : am_Wd} {l0 : Nat} {l1 : Nat} {l2 : Nat} {l3 : Nat} {l4 : Int32} : am_run 269 428 [some (.ref l0), some (.ref l1), some (.ref l2), some (.ref l3), some (.int l4), none, none, none] [] w = (am_ri 0 w l0 (l4 + (nI 1))).bind fun v => am_run 269 435 [some (.ref l0), some (.ref l1), some (.ref l2), some (.ref l3), some (.int l4), none, none, none] (.int v :: [.ref l1]) w := by
  refine (bu (ls'' := [some (.ref l0), some (.ref l1), some (.ref l2), some (.ref l3), some (.int l4), none, none, none]) (st' := [.ref l1]) bf269_428 bf269_429 rfl rfl).trans ?_
  refine (bu (ls'' := [some (.ref l0), some (.ref l1), some (.ref l2), some (.ref l3), some (.int l4), none, none, none]) (st' := [.ref l0, .ref l1]) bf269_429 bf269_430 rfl rfl).trans ?_
  refine (bu (ls'' := [some (.ref l0), some (.ref l1), some (.ref l2), some (.ref l3), some (.int l4), none, none, none]) (st' := [.int l4, .ref l0, .ref l1]) bf269_430 bf269_432 rfl rfl).trans ?_
  refine (bu (ls'' := [some (.ref l0), some (.ref l1), some (.ref l2), some (.ref l3), some (.int l4), none, none, none]) (st' := [.int (nI 1), .int l4, .ref l0, .ref l1]) bf269_432 bf269_433 rfl rfl).trans ?_
  refine (bu (ls'' := [some (.ref l0), some (.ref l1), some (.ref l2), some (.ref l3), some (.int l4), none, none, none]) (st' := [.int (l4 + (nI 1)), .ref l0, .ref l1]) bf269_433 bf269_434 rfl rfl).trans ?_
  exact bh bf269_434 bf269_435 rfl (fun _ _ => am_ge_rf w) rfl
theorem bk269_484 {w : am_Wd} {l0 : Nat} {l1 : Nat} {l2 : Nat} {l3 : Nat} {l4 : Int32} : am_run 269 484 [some (.ref l0), some (.ref l1), some (.ref l2), some (.ref l3), some (.int l4), none, none, none] [] w = (am_ri 0 w l0 (l4 + (nI 1))).bind fun v => am_run 269 491 [some (.ref l0), some (.ref l1), some (.ref l2), some (.ref l3), some (.int l4), none, none, none] (.int v :: [.ref l1]) w := by
  refine (bu (ls'' := [some (.ref l0), some (.ref l1), some (.ref l2), some (.ref l3), some (.int l4), none, none, none]) (st' := [.ref l1]) bf269_484 bf269_485 rfl rfl).trans ?_
  refine (bu (ls'' := [some (.ref l0), some (.ref l1), some (.ref l2), some (.ref l3), some (.int l4), none, none, none]) (st' := [.ref l0, .ref l1]) bf269_485 bf269_486 rfl rfl).trans ?_
  refine (bu (ls'' := [some (.ref l0), some (.ref l1), some (.ref l2), some (.ref l3), some (.int l4), none, none, none]) (st' := [.int l4, .ref l0, .ref l1]) bf269_486 bf269_488 rfl rfl).trans ?_
  refine (bu (ls'' := [some (.ref l0), some (.ref l1), some (.ref l2), some (.ref l3), some (.int l4), none, none, none]) (st' := [.int (nI 1), .int l4, .ref l0, .ref l1]) bf269_488 bf269_489 rfl rfl).trans ?_
  refine (bu (ls'' := [some (.ref l0), some (.ref l1), some (.ref l2), some (.ref l3), some (.int l4), none, none, none]) (st' := [.int (l4 + (nI 1)), .ref l0, .ref l1]) bf269_489 bf269_490 rfl rfl).trans ?_
  exact bh bf269_490 bf269_491 rfl (fun _ _ => am_ge_rf w) rfl
theorem bk269_568 {w : am_Wd} {l0 : Nat} {l1 : Nat} {l2 : Nat} {l3 : Nat} {l4 : Int32} : am_run 269 568 [some (.ref l0), some (.ref l1), some (.ref l2), some (.ref l3), some (.int l4), none, none, none] [] w = (am_ri 0 w l0 (l4 + (nI 1))).bind fun v => am_run 269 575 [some (.ref l0), some (.ref l1), some (.ref l2), some (.ref l3), some (.int l4), none, none, none] (.int v :: [.ref l1]) w := by
  refine (bu (ls'' := [some (.ref l0), some (.ref l1), some (.ref l2), some (.ref l3), some (.int l4), none, none, none]) (st' := [.ref l1]) bf269_568 bf269_569 rfl rfl).trans ?_
  refine (bu (ls'' := [some (.ref l0), some (.ref l1), some (.ref l2), some (.ref l3), some (.int l4), none, none, none]) (st' := [.ref l0, .ref l1]) bf269_569 bf269_570 rfl rfl).trans ?_
  refine (bu (ls'' := [some (.ref l0), some (.ref l1), some (.ref l2), some (.ref l3), some (.int l4), none, none, none]) (st' := [.int l4, .ref l0, .ref l1]) bf269_570 bf269_572 rfl rfl).trans ?_
  refine (bu (ls'' := [some (.ref l0), some (.ref l1), some (.ref l2), some (.ref l3), some (.int l4), none, none, none]) (st' := [.int (nI 1), .int l4, .ref l0, .ref l1]) bf269_572 bf269_573 rfl rfl).trans ?_
  refine (bu (ls'' := [some (.ref l0), some (.ref l1), some (.ref l2), some (.ref l3), some (.int l4), none, none, none]) (st' := [.int (l4 + (nI 1)), .ref l0, .ref l1]) bf269_573 bf269_574 rfl rfl).trans ?_
  exact bh bf269_574 bf269_575 rfl (fun _ _ => am_ge_rf w) rfl
theorem bk269_624 {w : am_Wd} {l0 : Nat} {l1 : Nat} {l2 : Nat} {l3 : Nat} {l4 : Int32} : am_run 269 624 [some (.ref l0), some (.ref l1), some (.ref l2), some (.ref l3), some (.int l4), none, none, none] [] w = (am_ri 0 w l0 (l4 + (nI 1))).bind fun v => am_run 269 631 [some (.ref l0), some (.ref l1), some (.ref l2), some (.ref l3), some (.int l4), none, none, none] (.int v :: [.ref l1]) w := by
  refine (bu (ls'' := [some (.ref l0), some (.ref l1), some (.ref l2), some (.ref l3), some (.int l4), none, none, none]) (st' := [.ref l1]) bf269_624 bf269_625 rfl rfl).trans ?_
  refine (bu (ls'' := [some (.ref l0), some (.ref l1), some (.ref l2), some (.ref l3), some (.int l4), none, none, none]) (st' := [.ref l0, .ref l1]) bf269_625 bf269_626 rfl rfl).trans ?_
  refine (bu (ls'' := [some (.ref l0), some (.ref l1), some (.ref l2), some (.ref l3), some (.int l4), none, none, none]) (st' := [.int l4, .ref l0, .ref l1]) bf269_626 bf269_628 rfl rfl).trans ?_
  refine (bu (ls'' := [some (.ref l0), some (.ref l1), some (.ref l2), some (.ref l3), some (.int l4), none, none, none]) (st' := [.int (nI 1), .int l4, .ref l0, .ref l1]) bf269_628 bf269_629 rfl rfl).trans ?_
  refine (bu (ls'' := [some (.ref l0), some (.ref l1), some (.ref l2), some (.ref l3), some (.int l4), none, none, none]) (st' := [.int (l4 + (nI 1)), .ref l0, .ref l1]) bf269_629 bf269_630 rfl rfl).trans ?_
  exact bh bf269_630 bf269_631 rfl (fun _ _ => am_ge_rf w) rfl
theorem bk269_680 {w : am_Wd} {l0 : Nat} {l1 : Nat} {l2 : Nat} {l3 : Nat} {l4 : Int32} : am_run 269 680 [some (.ref l0), some (.ref l1), some (.ref l2), some (.ref l3), some (.int l4), none, none, none] [] w = (am_ri 0 w l0 (l4 + (nI 1))).bind fun v => am_run 269 687 [some (.ref l0), some (.ref l1), some (.ref l2), some (.ref l3), some (.int l4), none, none, none] (.int v :: [.ref l1]) w := by
  refine (bu (ls'' := [some (.ref l0), some (.ref l1), some (.ref l2), some (.ref l3), some (.int l4), none, none, none]) (st' := [.ref l1]) bf269_680 bf269_681 rfl rfl).trans ?_
  refine (bu (ls'' := [some (.ref l0), some (.ref l1), some (.ref l2), some (.ref l3), some (.int l4), none, none, none]) (st' := [.ref l0, .ref l1]) bf269_681 bf269_682 rfl rfl).trans ?_
  refine (bu (ls'' := [some (.ref l0), some (.ref l1), some (.ref l2), some (.ref l3), some (.int l4), none, none, none]) (st' := [.int l4, .ref l0, .ref l1]) bf269_682 bf269_684 rfl rfl).trans ?_
  refine (bu (ls'' := [some (.ref l0), some (.ref l1), some (.ref l2), some (.ref l3), some (.int l4), none, none, none]) (st' := [.int (nI 1), .int l4, .ref l0, .ref l1]) bf269_684 bf269_685 rfl rfl).trans ?_
  refine (bu (ls'' := [some (.ref l0), some (.ref l1), some (.ref l2), some (.ref l3), some (.int l4), none, none, none]) (st' := [.int (l4 + (nI 1)), .ref l0, .ref l1]) bf269_685 bf269_686 rfl rfl).trans ?_
  exact bh bf269_686 bf269_687 rfl (fun _ _ => am_ge_rf w) rfl
theorem bk269_720 {w : am_Wd} {l0 : Nat} {l1 : Nat} {l2 : Nat} {l3 : Nat} {l4 : Int32} : am_run 269 720 [some (.ref l0), some (.ref l1), some (.ref l2), some (.ref l3), some (.int l4), none, none, none] [] w = (am_ri 0 w l0 (l4 + (nI 1))).bind fun v => am_run 269 727 [some (.ref l0), some (.ref l1), some (.ref l2), some (.ref l3), some (.int l4), none, none, none] (.int v :: [.ref l1]) w := by
  refine (bu (ls'' := [some (.ref l0), some (.ref l1), some (.ref l2), some (.ref l3), some (.int l4), none, none, none]) (st' := [.ref l1]) bf269_720 bf269_721 rfl rfl).trans ?_
  refine (bu (ls'' := [some (.ref l0), some (.ref l1), some (.ref l2), some (.ref l3), some (.int l4), none, none, none]) (st' := [.ref l0, .ref l1]) bf269_721 bf269_722 rfl rfl).trans ?_
  refine (bu (ls'' := [some (.ref l0), some (.ref l1), some (.ref l2), some (.ref l3), some (.int l4), none, none, none]) (st' := [.int l4, .ref l0, .ref l1]) bf269_722 bf269_724 rfl rfl).trans ?_
  refine (bu (ls'' := [some (.ref l0), some (.ref l1), some (.ref l2), some (.ref l3), some (.int l4), none, none, none]) (st' := [.int (nI 1), .int l4, .ref l0, .ref l1]) bf269_724 bf269_725 rfl rfl).trans ?_
  refine (bu (ls'' := [some (.ref l0), some (.ref l1), some (.ref l2), some (.ref l3), some (.int l4), none, none, none]) (st' := [.int (l4 + (nI 1)), .ref l0, .ref l1]) bf269_725 bf269_726 rfl rfl).trans ?_
  exact bh bf269_726 bf269_727 rfl (fun _ _ => am_ge_rf w) rfl
theorem bk269_748 {w : am_Wd} {l0 : Nat} {l1 : Nat} {l2 : Nat} {l3 : Nat} {l4 : Int32} : am_run 269 748 [some (.ref l0), some (.ref l1), some (.ref l2), some (.ref l3), some (.int l4), none, none, none] [] w = (am_ri 0 w l0 (l4 + (nI 1))).bind fun v => am_run 269 755 [some (.ref l0), some (.ref l1), some (.ref l2), some (.ref l3), some (.int l4), none, none, none] (.int v :: [.ref l1]) w := by
  refine (bu (ls'' := [some (.ref l0), some (.ref l1), some (.ref l2), some (.ref l3), some (.int l4), none, none, none]) (st' := [.ref l1]) bf269_748 bf269_749 rfl rfl).trans ?_
  refine (bu (ls'' := [some (.ref l0), some (.ref l1), some (.ref l2), some (.ref l3), some (.int l4), none, none, none]) (st' := [.ref l0, .ref l1]) bf269_749 bf269_750 rfl rfl).trans ?_
  refine (bu (ls'' := [some (.ref l0), some (.ref l1), some (.ref l2), some (.ref l3), some (.int l4), none, none, none]) (st' := [.int l4, .ref l0, .ref l1]) bf269_750 bf269_752 rfl rfl).trans ?_
  refine (bu (ls'' := [some (.ref l0), some (.ref l1), some (.ref l2), some (.ref l3), some (.int l4), none, none, none]) (st' := [.int (nI 1), .int l4, .ref l0, .ref l1]) bf269_752 bf269_753 rfl rfl).trans ?_
  refine (bu (ls'' := [some (.ref l0), some (.ref l1), some (.ref l2), some (.ref l3), some (.int l4), none, none, none]) (st' := [.int (l4 + (nI 1)), .ref l0, .ref l1]) bf269_753 bf269_754 rfl rfl).trans ?_
  exact bh bf269_754 bf269_755 rfl (fun _ _ => am_ge_rf w) rfl
theorem bk269_788 {w : am_Wd} {l0 : Nat} {l1 : Nat} {l2 : Nat} {l3 : Nat} {l4 : Int32} : am_run 269 788 [some (.ref l0), some (.ref l1), some (.ref l2), some (.ref l3), some (.int l4), none, none, none] [] w = (am_ri 0 w l0 (l4 + (nI 1))).bind fun v => am_run 269 795 [some (.ref l0), some (.ref l1), some (.ref l2), some (.ref l3), some (.int l4), none, none, none] (.int v :: [.ref l1]) w := by
  refine (bu (ls'' := [some (.ref l0), some (.ref l1), some (.ref l2), some (.ref l3), some (.int l4), none, none, none]) (st' := [.ref l1]) bf269_788 bf269_789 rfl rfl).trans ?_
  refine (bu (ls'' := [some (.ref l0), some (.ref l1), some (.ref l2), some (.ref l3), some (.int l4), none, none, none]) (st' := [.ref l0, .ref l1]) bf269_789 bf269_790 rfl rfl).trans ?_
  refine (bu (ls'' := [some (.ref l0), some (.ref l1), some (.ref l2), some (.ref l3), some (.int l4), none, none, none]) (st' := [.int l4, .ref l0, .ref l1]) bf269_790 bf269_792 rfl rfl).trans ?_
  refine (bu (ls'' := [some (.ref l0), some (.ref l1), some (.ref l2), some (.ref l3), some (.int l4), none, none, none]) (st' := [.int (nI 1), .int l4, .ref l0, .ref l1]) bf269_792 bf269_793 rfl rfl).trans ?_
  refine (bu (ls'' := [some (.ref l0), some (.ref l1), some (.ref l2), some (.ref l3), some (.int l4), none, none, none]) (st' := [.int (l4 + (nI 1)), .ref l0, .ref l1]) bf269_793 bf269_794 rfl rfl).trans ?_
  exact bh bf269_794 bf269_795 rfl (fun _ _ => am_ge_rf w) rfl
theorem bk269_816 {w : am_Wd} {l0 : Nat} {l1 : Nat} {l2 : Nat} {l3 : Nat} {l4 : Int32} : am_run 269 816 [some (.ref l0), some (.ref l1), some (.ref l2), some (.ref l3), some (.int l4), none, none, none] [] w = (am_kf w l1 8).bind fun _ => (am_x 24 [.ref l1] w).bind fun r => bct r fun v w' => am_run 269 820 [some (.ref l0), some (.ref l1), some (.ref l2), some (.ref l3), some (.int l4), none, none, none] (v.toList ++ []) w' := by
  refine (bu (ls'' := [some (.ref l0), some (.ref l1), some (.ref l2), some (.ref l3), some (.int l4), none, none, none]) (st' := [.ref l1]) bf269_816 bf269_817 rfl rfl).trans ?_
  exact bkV bf269_817 bf269_820 rfl (by decide +kernel) (Nat.le_of_ble_eq_true rfl) rfl (bhd rfl)
theorem bk269_829 {w : am_Wd} {l0 : Nat} {l1 : Nat} {l2 : Nat} {l3 : Nat} {l4 : Int32} : am_run 269 829 [some (.ref l0), some (.ref l1), some (.ref l2), some (.ref l3), some (.int l4), none, none, none] [] w = (am_ri 0 w l0 (l4 + (nI 1))).bind fun v => am_run 269 836 [some (.ref l0), some (.ref l1), some (.ref l2), some (.ref l3), some (.int l4), none, none, none] (.int v :: [.ref l1]) w := by
  refine (bu (ls'' := [some (.ref l0), some (.ref l1), some (.ref l2), some (.ref l3), some (.int l4), none, none, none]) (st' := [.ref l1]) bf269_829 bf269_830 rfl rfl).trans ?_
  refine (bu (ls'' := [some (.ref l0), some (.ref l1), some (.ref l2), some (.ref l3), some (.int l4), none, none, none]) (st' := [.ref l0, .ref l1]) bf269_830 bf269_831 rfl rfl).trans ?_
  refine (bu (ls'' := [some (.ref l0), some (.ref l1), some (.ref l2), some (.ref l3), some (.int l4), none, none, none]) (st' := [.int l4, .ref l0, .ref l1]) bf269_831 bf269_833 rfl rfl).trans ?_
  refine (bu (ls'' := [some (.ref l0), some (.ref l1), some (.ref l2), some (.ref l3), some (.int l4), none, none, none]) (st' := [.int (nI 1), .int l4, .ref l0, .ref l1]) bf269_833 bf269_834 rfl rfl).trans ?_
  refine (bu (ls'' := [some (.ref l0), some (.ref l1), some (.ref l2), some (.ref l3), some (.int l4), none, none, none]) (st' := [.int (l4 + (nI 1)), .ref l0, .ref l1]) bf269_834 bf269_835 rfl rfl).trans ?_
  exact bh bf269_835 bf269_836 rfl (fun _ _ => am_ge_rf w) rfl
theorem bk269_881 {w : am_Wd} {l0 : Nat} {l1 : Nat} {l2 : Nat} {l3 : Nat} {l4 : Int32} : am_run 269 881 [some (.ref l0), some (.ref l1), some (.ref l2), some (.ref l3), some (.int l4), none, none, none] [] w = (am_ri 0 w l0 (l4 + (nI 1))).bind fun v => am_run 269 888 [some (.ref l0), some (.ref l1), some (.ref l2), some (.ref l3), some (.int l4), none, none, none] (.int v :: [.ref l1]) w := by
  refine (bu (ls'' := [some (.ref l0), some (.ref l1), some (.ref l2), some (.ref l3), some (.int l4), none, none, none]) (st' := [.ref l1]) bf269_881 bf269_882 rfl rfl).trans ?_
  refine (bu (ls'' := [some (.ref l0), some (.ref l1), some (.ref l2), some (.ref l3), some (.int l4), none, none, none]) (st' := [.ref l0, .ref l1]) bf269_882 bf269_883 rfl rfl).trans ?_
  refine (bu (ls'' := [some (.ref l0), some (.ref l1), some (.ref l2), some (.ref l3), some (.int l4), none, none, none]) (st' := [.int l4, .ref l0, .ref l1]) bf269_883 bf269_885 rfl rfl).trans ?_
  refine (bu (ls'' := [some (.ref l0), some (.ref l1), some (.ref l2), some (.ref l3), some (.int l4), none, none, none]) (st' := [.int (nI 1), .int l4, .ref l0, .ref l1]) bf269_885 bf269_886 rfl rfl).trans ?_
  refine (bu (ls'' := [some (.ref l0), some (.ref l1), some (.ref l2), some (.ref l3), some (.int l4), none, none, none]) (st' := [.int (l4 + (nI 1)), .ref l0, .ref l1]) bf269_886 bf269_887 rfl rfl).trans ?_
  exact bh bf269_887 bf269_888 rfl (fun _ _ => am_ge_rf w) rfl
theorem bk269_921 {w : am_Wd} {l0 : Nat} {l1 : Nat} {l2 : Nat} {l3 : Nat} {l4 : Int32} : am_run 269 921 [some (.ref l0), some (.ref l1), some (.ref l2), some (.ref l3), some (.int l4), none, none, none] [] w = (am_ri 0 w l0 (l4 + (nI 1))).bind fun v => am_run 269 928 [some (.ref l0), some (.ref l1), some (.ref l2), some (.ref l3), some (.int l4), none, none, none] (.int v :: [.ref l1]) w := by
  refine (bu (ls'' := [some (.ref l0), some (.ref l1), some (.ref l2), some (.ref l3), some (.int l4), none, none, none]) (st' := [.ref l1]) bf269_921 bf269_922 rfl rfl).trans ?_
  refine (bu (ls'' := [some (.ref l0), some (.ref l1), some (.ref l2), some (.ref l3), some (.int l4), none, none, none]) (st' := [.ref l0, .ref l1]) bf269_922 bf269_923 rfl rfl).trans ?_
  refine (bu (ls'' := [some (.ref l0), some (.ref l1), some (.ref l2), some (.ref l3), some (.int l4), none, none, none]) (st' := [.int l4, .ref l0, .ref l1]) bf269_923 bf269_925 rfl rfl).trans ?_
  refine (bu (ls'' := [some (.ref l0), some (.ref l1), some (.ref l2), some (.ref l3), some (.int l4), none, none, none]) (st' := [.int (nI 1), .int l4, .ref l0, .ref l1]) bf269_925 bf269_926 rfl rfl).trans ?_
  refine (bu (ls'' := [some (.ref l0), some (.ref l1), some (.ref l2), some (.ref l3), some (.int l4), none, none, none]) (st' := [.int (l4 + (nI 1)), .ref l0, .ref l1]) bf269_926 bf269_927 rfl rfl).trans ?_
  exact bh bf269_927 bf269_928 rfl (fun _ _ => am_ge_rf w) rfl
theorem bk269_949 {w : am_Wd} {l0 : Nat} {l1 : Nat} {l2 : Nat} {l3 : Nat} {l4 : Int32} : am_run 269 949 [some (.ref l0), some (.ref l1), some (.ref l2), some (.ref l3), some (.int l4), none, none, none] [] w = (am_ri 0 w l0 (l4 + (nI 1))).bind fun v => am_run 269 956 [some (.ref l0), some (.ref l1), some (.ref l2), some (.ref l3), some (.int l4), none, none, none] (.int v :: [.ref l1]) w := by
  refine (bu (ls'' := [some (.ref l0), some (.ref l1), some (.ref l2), some (.ref l3), some (.int l4), none, none, none]) (st' := [.ref l1]) bf269_949 bf269_950 rfl rfl).trans ?_
  refine (bu (ls'' := [some (.ref l0), some (.ref l1), some (.ref l2), some (.ref l3), some (.int l4), none, none, none]) (st' := [.ref l0, .ref l1]) bf269_950 bf269_951 rfl rfl).trans ?_
  refine (bu (ls'' := [some (.ref l0), some (.ref l1), some (.ref l2), some (.ref l3), some (.int l4), none, none, none]) (st' := [.int l4, .ref l0, .ref l1]) bf269_951 bf269_953 rfl rfl).trans ?_
  refine (bu (ls'' := [some (.ref l0), some (.ref l1), some (.ref l2), some (.ref l3), some (.int l4), none, none, none]) (st' := [.int (nI 1), .int l4, .ref l0, .ref l1]) bf269_953 bf269_954 rfl rfl).trans ?_
  refine (bu (ls'' := [some (.ref l0), some (.ref l1), some (.ref l2), some (.ref l3), some (.int l4), none, none, none]) (st' := [.int (l4 + (nI 1)), .ref l0, .ref l1]) bf269_954 bf269_955 rfl rfl).trans ?_
  exact bh bf269_955 bf269_956 rfl (fun _ _ => am_ge_rf w) rfl
theorem bk269_1007 {w : am_Wd} {l0 : Nat} {l1 : Nat} {l2 : Nat} {l3 : Nat} {l4 : Int32} : am_run 269 1007 [some (.ref l0), some (.ref l1), some (.ref l2), some (.ref l3), some (.int l4), none, none, none] [] w = (am_ri 0 w l0 (l4 + (nI 1))).bind fun v => am_run 269 1014 [some (.ref l0), some (.ref l1), some (.ref l2), some (.ref l3), some (.int l4), none, none, none] (.int v :: [.ref l1]) w := by
  refine (bu (ls'' := [some (.ref l0), some (.ref l1), some (.ref l2), some (.ref l3), some (.int l4), none, none, none]) (st' := [.ref l1]) bf269_1007 bf269_1008 rfl rfl).trans ?_
  refine (bu (ls'' := [some (.ref l0), some (.ref l1), some (.ref l2), some (.ref l3), some (.int l4), none, none, none]) (st' := [.ref l0, .ref l1]) bf269_1008 bf269_1009 rfl rfl).trans ?_
  refine (bu (ls'' := [some (.ref l0), some (.ref l1), some (.ref l2), some (.ref l3), some (.int l4), none, none, none]) (st' := [.int l4, .ref l0, .ref l1]) bf269_1009 bf269_1011 rfl rfl).trans ?_
  refine (bu (ls'' := [some (.ref l0), some (.ref l1), some (.ref l2), some (.ref l3), some (.int l4), none, none, none]) (st' := [.int (nI 1), .int l4, .ref l0, .ref l1]) bf269_1011 bf269_1012 rfl rfl).trans ?_
  refine (bu (ls'' := [some (.ref l0), some (.ref l1), some (.ref l2), some (.ref l3), some (.int l4), none, none, none]) (st' := [.int (l4 + (nI 1)), .ref l0, .ref l1]) bf269_1012 bf269_1013 rfl rfl).trans ?_
  exact bh bf269_1013 bf269_1014 rfl (fun _ _ => am_ge_rf w) rfl
theorem bk269_1059 {w : am_Wd} {l0 : Nat} {l1 : Nat} {l2 : Nat} {l3 : Nat} {l4 : Int32} : am_run 269 1059 [some (.ref l0), some (.ref l1), some (.ref l2), some (.ref l3), some (.int l4), none, none, none] [] w = (am_ri 0 w l0 (l4 + (nI 1))).bind fun v => am_run 269 1066 [some (.ref l0), some (.ref l1), some (.ref l2), some (.ref l3), some (.int l4), none, none, none] (.int v :: [.ref l1]) w := by
  refine (bu (ls'' := [some (.ref l0), some (.ref l1), some (.ref l2), some (.ref l3), some (.int l4), none, none, none]) (st' := [.ref l1]) bf269_1059 bf269_1060 rfl rfl).trans ?_
  refine (bu (ls'' := [some (.ref l0), some (.ref l1), some (.ref l2), some (.ref l3), some (.int l4), none, none, none]) (st' := [.ref l0, .ref l1]) bf269_1060 bf269_1061 rfl rfl).trans ?_
  refine (bu (ls'' := [some (.ref l0), some (.ref l1), some (.ref l2), some (.ref l3), some (.int l4), none, none, none]) (st' := [.int l4, .ref l0, .ref l1]) bf269_1061 bf269_1063 rfl rfl).trans ?_
  refine (bu (ls'' := [some (.ref l0), some (.ref l1), some (.ref l2), some (.ref l3), some (.int l4), none, none, none]) (st' := [.int (nI 1), .int l4, .ref l0, .ref l1]) bf269_1063 bf269_1064 rfl rfl).trans ?_
  refine (bu (ls'' := [some (.ref l0), some (.ref l1), some (.ref l2), some (.ref l3), some (.int l4), none, none, none]) (st' := [.int (l4 + (nI 1)), .ref l0, .ref l1]) bf269_1064 bf269_1065 rfl rfl).trans ?_
  exact bh bf269_1065 bf269_1066 rfl (fun _ _ => am_ge_rf w) rfl
theorem bk269_1099 {w : am_Wd} {l0 : Nat} {l1 : Nat} {l2 : Nat} {l3 : Nat} {l4 : Int32} : am_run 269 1099 [some (.ref l0), some (.ref l1), some (.ref l2), some (.ref l3), some (.int l4), none, none, none] [] w = (am_ri 0 w l0 (l4 + (nI 1))).bind fun v => am_run 269 1106 [some (.ref l0), some (.ref l1), some (.ref l2), some (.ref l3), some (.int l4), none, none, none] (.int v :: [.ref l1]) w := by
  refine (bu (ls'' := [some (.ref l0), some (.ref l1), some (.ref l2), some (.ref l3), some (.int l4), none, none, none]) (st' := [.ref l1]) bf269_1099 bf269_1100 rfl rfl).trans ?_
  refine (bu (ls'' := [some (.ref l0), some (.ref l1), some (.ref l2), some (.ref l3), some (.int l4), none, none, none]) (st' := [.ref l0, .ref l1]) bf269_1100 bf269_1101 rfl rfl).trans ?_
  refine (bu (ls'' := [some (.ref l0), some (.ref l1), some (.ref l2), some (.ref l3), some (.int l4), none, none, none]) (st' := [.int l4, .ref l0, .ref l1]) bf269_1101 bf269_1103 rfl rfl).trans ?_
  refine (bu (ls'' := [some (.ref l0), some (.ref l1), some (.ref l2), some (.ref l3), some (.int l4), none, none, none]) (st' := [.int (nI 1), .int l4, .ref l0, .ref l1]) bf269_1103 bf269_1104 rfl rfl).trans ?_
  refine (bu (ls'' := [some (.ref l0), some (.ref l1), some (.ref l2), some (.ref l3), some (.int l4), none, none, none]) (st' := [.int (l4 + (nI 1)), .ref l0, .ref l1]) bf269_1104 bf269_1105 rfl rfl).trans ?_
  exact bh bf269_1105 bf269_1106 rfl (fun _ _ => am_ge_rf w) rfl
theorem bk269_1139 {w : am_Wd} {l0 : Nat} {l1 : Nat} {l2 : Nat} {l3 : Nat} {l4 : Int32} : am_run 269 1139 [some (.ref l0), some (.ref l1), some (.ref l2), some (.ref l3), some (.int l4), none, none, none] [] w = (am_ri 0 w l0 (l4 + (nI 1))).bind fun v => am_run 269 1146 [some (.ref l0), some (.ref l1), some (.ref l2), some (.ref l3), some (.int l4), none, none, none] (.int v :: [.ref l1]) w := by
  refine (bu (ls'' := [some (.ref l0), some (.ref l1), some (.ref l2), some (.ref l3), some (.int l4), none, none, none]) (st' := [.ref l1]) bf269_1139 bf269_1140 rfl rfl).trans ?_
  refine (bu (ls'' := [some (.ref l0), some (.ref l1), some (.ref l2), some (.ref l3), some (.int l4), none, none, none]) (st' := [.ref l0, .ref l1]) bf269_1140 bf269_1141 rfl rfl).trans ?_
  refine (bu (ls'' := [some (.ref l0), some (.ref l1), some (.ref l2), some (.ref l3), some (.int l4), none, none, none]) (st' := [.int l4, .ref l0, .ref l1]) bf269_1141 bf269_1143 rfl rfl).trans ?_
  refine (bu (ls'' := [some (.ref l0), some (.ref l1), some (.ref l2), some (.ref l3), some (.int l4), none, none, none]) (st' := [.int (nI 1), .int l4, .ref l0, .ref l1]) bf269_1143 bf269_1144 rfl rfl).trans ?_
  refine (bu (ls'' := [some (.ref l0), some (.ref l1), some (.ref l2), some (.ref l3), some (.int l4), none, none, none]) (st' := [.int (l4 + (nI 1)), .ref l0, .ref l1]) bf269_1144 bf269_1145 rfl rfl).trans ?_
  exact bh bf269_1145 bf269_1146 rfl (fun _ _ => am_ge_rf w) rfl
theorem bk269_1191 {w : am_Wd} {l0 : Nat} {l1 : Nat} {l2 : Nat} {l3 : Nat} {l4 : Int32} : am_run 269 1191 [some (.ref l0), some (.ref l1), some (.ref l2), some (.ref l3), some (.int l4), none, none, none] [] w = (am_ri 0 w l0 (l4 + (nI 1))).bind fun v => am_run 269 1198 [some (.ref l0), some (.ref l1), some (.ref l2), some (.ref l3), some (.int l4), none, none, none] (.int v :: [.ref l1]) w := by
  refine (bu (ls'' := [some (.ref l0), some (.ref l1), some (.ref l2), some (.ref l3), some (.int l4), none, none, none]) (st' := [.ref l1]) bf269_1191 bf269_1192 rfl rfl).trans ?_
  refine (bu (ls'' := [some (.ref l0), some (.ref l1), some (.ref l2), some (.ref l3), some (.int l4), none, none, none]) (st' := [.ref l0, .ref l1]) bf269_1192 bf269_1193 rfl rfl).trans ?_
  refine (bu (ls'' := [some (.ref l0), some (.ref l1), some (.ref l2), some (.ref l3), some (.int l4), none, none, none]) (st' := [.int l4, .ref l0, .ref l1]) bf269_1193 bf269_1195 rfl rfl).trans ?_
  refine (bu (ls'' := [some (.ref l0), some (.ref l1), some (.ref l2), some (.ref l3), some (.int l4), none, none, none]) (st' := [.int (nI 1), .int l4, .ref l0, .ref l1]) bf269_1195 bf269_1196 rfl rfl).trans ?_
  refine (bu (ls'' := [some (.ref l0), some (.ref l1), some (.ref l2), some (.ref l3), some (.int l4), none, none, none]) (st' := [.int (l4 + (nI 1)), .ref l0, .ref l1]) bf269_1196 bf269_1197 rfl rfl).trans ?_
  exact bh bf269_1197 bf269_1198 rfl (fun _ _ => am_ge_rf w) rfl
theorem bk269_1231 {w : am_Wd} {l0 : Nat} {l1 : Nat} {l2 : Nat} {l3 : Nat} {l4 : Int32} : am_run 269 1231 [some (.ref l0), some (.ref l1), some (.ref l2), some (.ref l3), some (.int l4), none, none, none] [] w = (am_ri 0 w l0 (l4 + (nI 1))).bind fun v => am_run 269 1238 [some (.ref l0), some (.ref l1), some (.ref l2), some (.ref l3), some (.int l4), none, none, none] (.int v :: [.ref l1]) w := by
  refine (bu (ls'' := [some (.ref l0), some (.ref l1), some (.ref l2), some (.ref l3), some (.int l4), none, none, none]) (st' := [.ref l1]) bf269_1231 bf269_1232 rfl rfl).trans ?_
  refine (bu (ls'' := [some (.ref l0), some (.ref l1), some (.ref l2), some (.ref l3), some (.int l4), none, none, none]) (st' := [.ref l0, .ref l1]) bf269_1232 bf269_1233 rfl rfl).trans ?_
  refine (bu (ls'' := [some (.ref l0), some (.ref l1), some (.ref l2), some (.ref l3), some (.int l4), none, none, none]) (st' := [.int l4, .ref l0, .ref l1]) bf269_1233 bf269_1235 rfl rfl).trans ?_
  refine (bu (ls'' := [some (.ref l0), some (.ref l1), some (.ref l2), some (.ref l3), some (.int l4), none, none, none]) (st' := [.int (nI 1), .int l4, .ref l0, .ref l1]) bf269_1235 bf269_1236 rfl rfl).trans ?_
  refine (bu (ls'' := [some (.ref l0), some (.ref l1), some (.ref l2), some (.ref l3), some (.int l4), none, none, none]) (st' := [.int (l4 + (nI 1)), .ref l0, .ref l1]) bf269_1236 bf269_1237 rfl rfl).trans ?_
  exact bh bf269_1237 bf269_1238 rfl (fun _ _ => am_ge_rf w) rfl
theorem bk269_1259 {w : am_Wd} {l0 : Nat} {l1 : Nat} {l2 : Nat} {l3 : Nat} {l4 : Int32} : am_run 269 1259 [some (.ref l0), some (.ref l1), some (.ref l2), some (.ref l3), some (.int l4), none, none, none] [] w = (am_ri 0 w l0 (l4 + (nI 1))).bind fun v => am_run 269 1266 [some (.ref l0), some (.ref l1), some (.ref l2), some (.ref l3), some (.int l4), none, none, none] (.int v :: [.ref l1]) w := by
  refine (bu (ls'' := [some (.ref l0), some (.ref l1), some (.ref l2), some (.ref l3), some (.int l4), none, none, none]) (st' := [.ref l1]) bf269_1259 bf269_1260 rfl rfl).trans ?_
  refine (bu (ls'' := [some (.ref l0), some (.ref l1), some (.ref l2), some (.ref l3), some (.int l4), none, none, none]) (st' := [.ref l0, .ref l1]) bf269_1260 bf269_1261 rfl rfl).trans ?_
  refine (bu (ls'' := [some (.ref l0), some (.ref l1), some (.ref l2), some (.ref l3), some (.int l4), none, none, none]) (st' := [.int l4, .ref l0, .ref l1]) bf269_1261 bf269_1263 rfl rfl).trans ?_
  refine (bu (ls'' := [some (.ref l0), some (.ref l1), some (.ref l2), some (.ref l3), some (.int l4), none, none, none]) (st' := [.int (nI 1), .int l4, .ref l0, .ref l1]) bf269_1263 bf269_1264 rfl rfl).trans ?_
  refine (bu (ls'' := [some (.ref l0), some (.ref l1), some (.ref l2), some (.ref l3), some (.int l4), none, none, none]) (st' := [.int (l4 + (nI 1)), .ref l0, .ref l1]) bf269_1264 bf269_1265 rfl rfl).trans ?_
  exact bh bf269_1265 bf269_1266 rfl (fun _ _ => am_ge_rf w) rfl
theorem bk269_1299 {w : am_Wd} {l0 : Nat} {l1 : Nat} {l2 : Nat} {l3 : Nat} {l4 : Int32} : am_run 269 1299 [some (.ref l0), some (.ref l1), some (.ref l2), some (.ref l3), some (.int l4), none, none, none] [] w = (am_ri 0 w l0 (l4 + (nI 1))).bind fun v => am_run 269 1306 [some (.ref l0), some (.ref l1), some (.ref l2), some (.ref l3), some (.int l4), none, none, none] (.int v :: [.ref l1]) w := by
  refine (bu (ls'' := [some (.ref l0), some (.ref l1), some (.ref l2), some (.ref l3), some (.int l4), none, none, none]) (st' := [.ref l1]) bf269_1299 bf269_1300 rfl rfl).trans ?_
  refine (bu (ls'' := [some (.ref l0), some (.ref l1), some (.ref l2), some (.ref l3), some (.int l4), none, none, none]) (st' := [.ref l0, .ref l1]) bf269_1300 bf269_1301 rfl rfl).trans ?_
  refine (bu (ls'' := [some (.ref l0), some (.ref l1), some (.ref l2), some (.ref l3), some (.int l4), none, none, none]) (st' := [.int l4, .ref l0, .ref l1]) bf269_1301 bf269_1303 rfl rfl).trans ?_
  refine (bu (ls'' := [some (.ref l0), some (.ref l1), some (.ref l2), some (.ref l3), some (.int l4), none, none, none]) (st' := [.int (nI 1), .int l4, .ref l0, .ref l1]) bf269_1303 bf269_1304 rfl rfl).trans ?_
  refine (bu (ls'' := [some (.ref l0), some (.ref l1), some (.ref l2), some (.ref l3), some (.int l4), none, none, none]) (st' := [.int (l4 + (nI 1)), .ref l0, .ref l1]) bf269_1304 bf269_1305 rfl rfl).trans ?_
  exact bh bf269_1305 bf269_1306 rfl (fun _ _ => am_ge_rf w) rfl
theorem bk269_1327 {w : am_Wd} {l0 : Nat} {l1 : Nat} {l2 : Nat} {l3 : Nat} {l4 : Int32} : am_run 269 1327 [some (.ref l0), some (.ref l1), some (.ref l2), some (.ref l3), some (.int l4), none, none, none] [] w = (am_ri 0 w l0 (l4 + (nI 1))).bind fun v => am_run 269 1334 [some (.ref l0), some (.ref l1), some (.ref l2), some (.ref l3), some (.int l4), none, none, none] (.int v :: [.ref l1]) w := by
  refine (bu (ls'' := [some (.ref l0), some (.ref l1), some (.ref l2), some (.ref l3), some (.int l4), none, none, none]) (st' := [.ref l1]) bf269_1327 bf269_1328 rfl rfl).trans ?_
  refine (bu (ls'' := [some (.ref l0), some (.ref l1), some (.ref l2), some (.ref l3), some (.int l4), none, none, none]) (st' := [.ref l0, .ref l1]) bf269_1328 bf269_1329 rfl rfl).trans ?_
  refine (bu (ls'' := [some (.ref l0), some (.ref l1), some (.ref l2), some (.ref l3), some (.int l4), none, none, none]) (st' := [.int l4, .ref l0, .ref l1]) bf269_1329 bf269_1331 rfl rfl).trans ?_
  refine (bu (ls'' := [some (.ref l0), some (.ref l1), some (.ref l2), some (.ref l3), some (.int l4), none, none, none]) (st' := [.int (nI 1), .int l4, .ref l0, .ref l1]) bf269_1331 bf269_1332 rfl rfl).trans ?_
  refine (bu (ls'' := [some (.ref l0), some (.ref l1), some (.ref l2), some (.ref l3), some (.int l4), none, none, none]) (st' := [.int (l4 + (nI 1)), .ref l0, .ref l1]) bf269_1332 bf269_1333 rfl rfl).trans ?_
  exact bh bf269_1333 bf269_1334 rfl (fun _ _ => am_ge_rf w) rfl
theorem bk269_1367 {w : am_Wd} {l0 : Nat} {l1 : Nat} {l2 : Nat} {l3 : Nat} {l4 : Int32} : am_run 269 1367 [some (.ref l0), some (.ref l1), some (.ref l2), some (.ref l3), some (.int l4), none, none, none] [] w = (am_ri 0 w l0 (l4 + (nI 1))).bind fun v => am_run 269 1374 [some (.ref l0), some (.ref l1), some (.ref l2), some (.ref l3), some (.int l4), none, none, none] (.int v :: [.ref l1]) w := by
  refine (bu (ls'' := [some (.ref l0), some (.ref l1), some (.ref l2), some (.ref l3), some (.int l4), none, none, none]) (st' := [.ref l1]) bf269_1367 bf269_1368 rfl rfl).trans ?_
  refine (bu (ls'' := [some (.ref l0), some (.ref l1), some (.ref l2), some (.ref l3), some (.int l4), none, none, none]) (st' := [.ref l0, .ref l1]) bf269_1368 bf269_1369 rfl rfl).trans ?_
  refine (bu (ls'' := [some (.ref l0), some (.ref l1), some (.ref l2), some (.ref l3), some (.int l4), none, none, none]) (st' := [.int l4, .ref l0, .ref l1]) bf269_1369 bf269_1371 rfl rfl).trans ?_
  refine (bu (ls'' := [some (.ref l0), some (.ref l1), some (.ref l2), some (.ref l3), some (.int l4), none, none, none]) (st' := [.int (nI 1), .int l4, .ref l0, .ref l1]) bf269_1371 bf269_1372 rfl rfl).trans ?_
  refine (bu (ls'' := [some (.ref l0), some (.ref l1), some (.ref l2), some (.ref l3), some (.int l4), none, none, none]) (st' := [.int (l4 + (nI 1)), .ref l0, .ref l1]) bf269_1372 bf269_1373 rfl rfl).trans ?_
  exact bh bf269_1373 bf269_1374 rfl (fun _ _ => am_ge_rf w) rfl
theorem bk269_1407 {w : am_Wd} {l0 : Nat} {l1 : Nat} {l2 : Nat} {l3 : Nat} {l4 : Int32} : am_run 269 1407 [some (.ref l0), some (.ref l1), some (.ref l2), some (.ref l3), some (.int l4), none, none, none] [] w = (am_kf w l1 8).bind fun _ => (am_x 224 [.ref l1] w).bind fun r => bct r fun v w' => am_run 269 1411 [some (.ref l0), some (.ref l1), some (.ref l2), some (.ref l3), some (.int l4), none, none, none] (v.toList ++ []) w' := by
  refine (bu (ls'' := [some (.ref l0), some (.ref l1), some (.ref l2), some (.ref l3), some (.int l4), none, none, none]) (st' := [.ref l1]) bf269_1407 bf269_1408 rfl rfl).trans ?_
  exact bkV bf269_1408 bf269_1411 rfl (by decide +kernel) (Nat.le_of_ble_eq_true rfl) rfl (bhd rfl)
theorem bk269_1420 {w : am_Wd} {l0 : Nat} {l1 : Nat} {l2 : Nat} {l3 : Nat} {l4 : Int32} : am_run 269 1420 [some (.ref l0), some (.ref l1), some (.ref l2), some (.ref l3), some (.int l4), none, none, none] [] w = (am_kf w l1 8).bind fun _ => (am_x 250 [.ref l1] w).bind fun r => bct r fun v w' => am_run 269 1424 [some (.ref l0), some (.ref l1), some (.ref l2), some (.ref l3), some (.int l4), none, none, none] (v.toList ++ []) w' := by
  refine (bu (ls'' := [some (.ref l0), some (.ref l1), some (.ref l2), some (.ref l3), some (.int l4), none, none, none]) (st' := [.ref l1]) bf269_1420 bf269_1421 rfl rfl).trans ?_
  exact bkV bf269_1421 bf269_1424 rfl (by decide +kernel) (Nat.le_of_ble_eq_true rfl) rfl (bhd rfl)
theorem bk269_1433 {w : am_Wd} {l0 : Nat} {l1 : Nat} {l2 : Nat} {l3 : Nat} {l4 : Int32} : am_run 269 1433 [some (.ref l0), some (.ref l1), some (.ref l2), some (.ref l3), some (.int l4), none, none, none] [] w = am_run 269 27 [some (.ref l0), some (.ref l1), some (.ref l2), some (.ref l3), some (.int (l4 + (nI 5))), none, none, none] [] w := by
  refine (bu (ls'' := [some (.ref l0), some (.ref l1), some (.ref l2), some (.ref l3), some (.int (l4 + (nI 5))), none, none, none]) (st' := []) bf269_1433 bf269_1436 rfl rfl).trans ?_
  refine (bu (ls'' := [some (.ref l0), some (.ref l1), some (.ref l2), some (.ref l3), some (.int (l4 + (nI 5))), none, none, none]) (st' := []) bf269_1436 bf269_27 rfl rfl).trans ?_
  rfl
theorem bk269_179 {w : am_Wd} {l0 : Nat} {l1 : Nat} {l2 : Nat} {l3 : Nat} {l4 : Int32} {s0 : Int32} {s1 : Nat} : am_run 269 179 [some (.ref l0), some (.ref l1), some (.ref l2), some (.ref l3), some (.int l4), none, none, none] [.int s0, .ref s1] w = (am_ri 0 w l0 (l4 + (nI 2))).bind fun v => am_run 269 185 [some (.ref l0), some (.ref l1), some (.ref l2), some (.ref l3), some (.int l4), none, none, none] (.int v :: [.int s0, .ref s1]) w := by
  refine (bu (ls'' := [some (.ref l0), some (.ref l1), some (.ref l2), some (.ref l3), some (.int l4), none, none, none]) (st' := [.ref l0, .int s0, .ref s1]) bf269_179 bf269_180 rfl rfl).trans ?_
  refine (bu (ls'' := [some (.ref l0), some (.ref l1), some (.ref l2), some (.ref l3), some (.int l4), none, none, none]) (st' := [.int l4, .ref l0, .int s0, .ref s1]) bf269_180 bf269_182 rfl rfl).trans ?_
  refine (bu (ls'' := [some (.ref l0), some (.ref l1), some (.ref l2), some (.ref l3), some (.int l4), none, none, none]) (st' := [.int (nI 2), .int l4, .ref l0, .int s0, .ref s1]) bf269_182 bf269_183 rfl rfl).trans ?_
  refine (bu (ls'' := [some (.ref l0), some (.ref l1), some (.ref l2), some (.ref l3), some (.int l4), none, none, none]) (st' := [.int (l4 + (nI 2)), .ref l0, .int s0, .ref s1]) bf269_183 bf269_184 rfl rfl).trans ?_
  exact bh bf269_184 bf269_185 rfl (fun _ _ => am_ge_rf w) rfl
theorem bk269_243 {w : am_Wd} {l0 : Nat} {l1 : Nat} {l2 : Nat} {l3 : Nat} {l4 : Int32} {s0 : Int32} {s1 : Nat} : am_run 269 243 [some (.ref l0), some (.ref l1), some (.ref l2), some (.ref l3), some (.int l4), none, none, none] [.int s0, .ref s1] w = (am_x 233 [.ref s1, .int s0, .ref l3] w).bind fun r => bct r fun v w' => am_run 269 247 [some (.ref l0), some (.ref l1), some (.ref l2), some (.ref l3), some (.int l4), none, none, none] (v.toList ++ []) w' := by
  refine (bu (ls'' := [some (.ref l0), some (.ref l1), some (.ref l2), some (.ref l3), some (.int l4), none, none, none]) (st' := [.ref l3, .int s0, .ref s1]) bf269_243 bf269_244 rfl rfl).trans ?_
  exact bkS bf269_244 bf269_247 rfl (by decide +kernel) (Nat.le_of_ble_eq_true rfl) rfl (bhd rfl)
theorem bk269_271 {w : am_Wd} {l0 : Nat} {l1 : Nat} {l2 : Nat} {l3 : Nat} {l4 : Int32} {s0 : Int32} {s1 : Nat} : am_run 269 271 [some (.ref l0), some (.ref l1), some (.ref l2), some (.ref l3), some (.int l4), none, none, none] [.int s0, .ref s1] w = (am_ri 0 w l0 (l4 + (nI 2))).bind fun v => am_run 269 277 [some (.ref l0), some (.ref l1), some (.ref l2), some (.ref l3), some (.int l4), none, none, none] (.int v :: [.int s0, .ref s1]) w := by
  refine (bu (ls'' := [some (.ref l0), some (.ref l1), some (.ref l2), some (.ref l3), some (.int l4), none, none, none]) (st' := [.ref l0, .int s0, .ref s1]) bf269_271 bf269_272 rfl rfl).trans ?_
  refine (bu (ls'' := [some (.ref l0), some (.ref l1), some (.ref l2), some (.ref l3), some (.int l4), none, none, none]) (st' := [.int l4, .ref l0, .int s0, .ref s1]) bf269_272 bf269_274 rfl rfl).trans ?_
  refine (bu (ls'' := [some (.ref l0), some (.ref l1), some (.ref l2), some (.ref l3), some (.int l4), none, none, none]) (st' := [.int (nI 2), .int l4, .ref l0, .int s0, .ref s1]) bf269_274 bf269_275 rfl rfl).trans ?_
  refine (bu (ls'' := [some (.ref l0), some (.ref l1), some (.ref l2), some (.ref l3), some (.int l4), none, none, none]) (st' := [.int (l4 + (nI 2)), .ref l0, .int s0, .ref s1]) bf269_275 bf269_276 rfl rfl).trans ?_
  exact bh bf269_276 bf269_277 rfl (fun _ _ => am_ge_rf w) rfl
theorem bk269_355 {w : am_Wd} {l0 : Nat} {l1 : Nat} {l2 : Nat} {l3 : Nat} {l4 : Int32} {s0 : Int32} {s1 : Nat} : am_run 269 355 [some (.ref l0), some (.ref l1), some (.ref l2), some (.ref l3), some (.int l4), none, none, none] [.int s0, .ref s1] w = (am_ri 0 w l0 (l4 + (nI 2))).bind fun v => am_run 269 361 [some (.ref l0), some (.ref l1), some (.ref l2), some (.ref l3), some (.int l4), none, none, none] (.int v :: [.int s0, .ref s1]) w := by
  refine (bu (ls'' := [some (.ref l0), some (.ref l1), some (.ref l2), some (.ref l3), some (.int l4), none, none, none]) (st' := [.ref l0, .int s0, .ref s1]) bf269_355 bf269_356 rfl rfl).trans ?_
  refine (bu (ls'' := [some (.ref l0), some (.ref l1), some (.ref l2), some (.ref l3), some (.int l4), none, none, none]) (st' := [.int l4, .ref l0, .int s0, .ref s1]) bf269_356 bf269_358 rfl rfl).trans ?_
  refine (bu (ls'' := [some (.ref l0), some (.ref l1), some (.ref l2), some (.ref l3), some (.int l4), none, none, none]) (st' := [.int (nI 2), .int l4, .ref l0, .int s0, .ref s1]) bf269_358 bf269_359 rfl rfl).trans ?_
  refine (bu (ls'' := [some (.ref l0), some (.ref l1), some (.ref l2), some (.ref l3), some (.int l4), none, none, none]) (st' := [.int (l4 + (nI 2)), .ref l0, .int s0, .ref s1]) bf269_359 bf269_360 rfl rfl).trans ?_
  exact bh bf269_360 bf269_361 rfl (fun _ _ => am_ge_rf w) rfl
theorem bk269_435 {w : am_Wd} {l0 : Nat} {l1 : Nat} {l2 : Nat} {l3 : Nat} {l4 : Int32} {s0 : Int32} {s1 : Nat} : am_run 269 435 [some (.ref l0), some (.ref l1), some (.ref l2), some (.ref l3), some (.int l4), none, none, none] [.int s0, .ref s1] w = (am_ri 0 w l0 (l4 + (nI 2))).bind fun v => am_run 269 441 [some (.ref l0), some (.ref l1), some (.ref l2), some (.ref l3), some (.int l4), none, none, none] (.int v :: [.int s0, .ref s1]) w := by
  refine (bu (ls'' := [some (.ref l0), some (.ref l1), some (.ref l2), some (.ref l3), some (.int l4), none, none, none]) (st' := [.ref l0, .int s0, .ref s1]) bf269_435 bf269_436 rfl rfl).trans ?_
  refine (bu (ls'' := [some (.ref l0), some (.ref l1), some (.ref l2), some (.ref l3), some (.int l4), none, none, none]) (st' := [.int l4, .ref l0, .int s0, .ref s1]) bf269_436 bf269_438 rfl rfl).trans ?_
  refine (bu (ls'' := [some (.ref l0), some (.ref l1), some (.ref l2), some (.ref l3), some (.int l4), none, none, none]) (st' := [.int (nI 2), .int l4, .ref l0, .int s0, .ref s1]) bf269_438 bf269_439 rfl rfl).trans ?_
  refine (bu (ls'' := [some (.ref l0), some (.ref l1), some (.ref l2), some (.ref l3), some (.int l4), none, none, none]) (st' := [.int (l4 + (nI 2)), .ref l0, .int s0, .ref s1]) bf269_439 bf269_440 rfl rfl).trans ?_
  exact bh bf269_440 bf269_441 rfl (fun _ _ => am_ge_rf w) rfl
theorem bk269_491 {w : am_Wd} {l0 : Nat} {l1 : Nat} {l2 : Nat} {l3 : Nat} {l4 : Int32} {s0 : Int32} {s1 : Nat} : am_run 269 491 [some (.ref l0), some (.ref l1), some (.ref l2), some (.ref l3), some (.int l4), none, none, none] [.int s0, .ref s1] w = (am_ri 0 w l0 (l4 + (nI 2))).bind fun v => am_run 269 497 [some (.ref l0), some (.ref l1), some (.ref l2), some (.ref l3), some (.int l4), none, none, none] (.int v :: [.int s0, .ref s1]) w := by
  refine (bu (ls'' := [some (.ref l0), some (.ref l1), some (.ref l2), some (.ref l3), some (.int l4), none, none, none]) (st' := [.ref l0, .int s0, .ref s1]) bf269_491 bf269_492 rfl rfl).trans ?_
  refine (bu (ls'' := [some (.ref l0), some (.ref l1), some (.ref l2), some (.ref l3), some (.int l4), none, none, none]) (st' := [.int l4, .ref l0, .int s0, .ref s1]) bf269_492 bf269_494 rfl rfl).trans ?_
  refine (bu (ls'' := [some (.ref l0), some (.ref l1), some (.ref l2), some (.ref l3), some (.int l4), none, none, none]) (st' := [.int (nI 2), .int l4, .ref l0, .int s0, .ref s1]) bf269_494 bf269_495 rfl rfl).trans ?_
  refine (bu (ls'' := [some (.ref l0), some (.ref l1), some (.ref l2), some (.ref l3), some (.int l4), none, none, none]) (st' := [.int (l4 + (nI 2)), .ref l0, .int s0, .ref s1]) bf269_495 bf269_496 rfl rfl).trans ?_
  exact bh bf269_496 bf269_497 rfl (fun _ _ => am_ge_rf w) rfl
theorem bk269_575 {w : am_Wd} {l0 : Nat} {l1 : Nat} {l2 : Nat} {l3 : Nat} {l4 : Int32} {s0 : Int32} {s1 : Nat} : am_run 269 575 [some (.ref l0), some (.ref l1), some (.ref l2), some (.ref l3), some (.int l4), none, none, none] [.int s0, .ref s1] w = (am_ri 0 w l0 (l4 + (nI 2))).bind fun v => am_run 269 581 [some (.ref l0), some (.ref l1), some (.ref l2), some (.ref l3), some (.int l4), none, none, none] (.int v :: [.int s0, .ref s1]) w := by
  refine (bu (ls'' := [some (.ref l0), some (.ref l1), some (.ref l2), some (.ref l3), some (.int l4), none, none, none]) (st' := [.ref l0, .int s0, .ref s1]) bf269_575 bf269_576 rfl rfl).trans ?_
  refine (bu (ls'' := [some (.ref l0), some (.ref l1), some (.ref l2), some (.ref l3), some (.int l4), none, none, none]) (st' := [.int l4, .ref l0, .int s0, .ref s1]) bf269_576 bf269_578 rfl rfl).trans ?_
  refine (bu (ls'' := [some (.ref l0), some (.ref l1), some (.ref l2), some (.ref l3), some (.int l4), none, none, none]) (st' := [.int (nI 2), .int l4, .ref l0, .int s0, .ref s1]) bf269_578 bf269_579 rfl rfl).trans ?_
  refine (bu (ls'' := [some (.ref l0), some (.ref l1), some (.ref l2), some (.ref l3), some (.int l4), none, none, none]) (st' := [.int (l4 + (nI 2)), .ref l0, .int s0, .ref s1]) bf269_579 bf269_580 rfl rfl).trans ?_
  exact bh bf269_580 bf269_581 rfl (fun _ _ => am_ge_rf w) rfl
theorem bk269_631 {w : am_Wd} {l0 : Nat} {l1 : Nat} {l2 : Nat} {l3 : Nat} {l4 : Int32} {s0 : Int32} {s1 : Nat} : am_run 269 631 [some (.ref l0), some (.ref l1), some (.ref l2), some (.ref l3), some (.int l4), none, none, none] [.int s0, .ref s1] w = (am_ri 0 w l0 (l4 + (nI 2))).bind fun v => am_run 269 637 [some (.ref l0), some (.ref l1), some (.ref l2), some (.ref l3), some (.int l4), none, none, none] (.int v :: [.int s0, .ref s1]) w := by
  refine (bu (ls'' := [some (.ref l0), some (.ref l1), some (.ref l2), some (.ref l3), some (.int l4), none, none, none]) (st' := [.ref l0, .int s0, .ref s1]) bf269_631 bf269_632 rfl rfl).trans ?_
  refine (bu (ls'' := [some (.ref l0), some (.ref l1), some (.ref l2), some (.ref l3), some (.int l4), none, none, none]) (st' := [.int l4, .ref l0, .int s0, .ref s1]) bf269_632 bf269_634 rfl rfl).trans ?_
  refine (bu (ls'' := [some (.ref l0), some (.ref l1), some (.ref l2), some (.ref l3), some (.int l4), none, none, none]) (st' := [.int (nI 2), .int l4, .ref l0, .int s0, .ref s1]) bf269_634 bf269_635 rfl rfl).trans ?_
  refine (bu (ls'' := [some (.ref l0), some (.ref l1), some (.ref l2), some (.ref l3), some (.int l4), none, none, none]) (st' := [.int (l4 + (nI 2)), .ref l0, .int s0, .ref s1]) bf269_635 bf269_636 rfl rfl).trans ?_
  exact bh bf269_636 bf269_637 rfl (fun _ _ => am_ge_rf w) rfl
theorem bk269_687 {w : am_Wd} {l0 : Nat} {l1 : Nat} {l2 : Nat} {l3 : Nat} {l4 : Int32} {s0 : Int32} {s1 : Nat} : am_run 269 687 [some (.ref l0), some (.ref l1), some (.ref l2), some (.ref l3), some (.int l4), none, none, none] [.int s0, .ref s1] w = (am_ri 0 w l0 (l4 + (nI 2))).bind fun v => am_run 269 693 [some (.ref l0), some (.ref l1), some (.ref l2), some (.ref l3), some (.int l4), none, none, none] (.int v :: [.int s0, .ref s1]) w := by
  refine (bu (ls'' := [some (.ref l0), some (.ref l1), some (.ref l2), some (.ref l3), some (.int l4), none, none, none]) (st' := [.ref l0, .int s0, .ref s1]) bf269_687 bf269_688 rfl rfl).trans ?_
  refine (bu (ls'' := [some (.ref l0), some (.ref l1), some (.ref l2), some (.ref l3), some (.int l4), none, none, none]) (st' := [.int l4, .ref l0, .int s0, .ref s1]) bf269_688 bf269_690 rfl rfl).trans ?_
  refine (bu (ls'' := [some (.ref l0), some (.ref l1), some (.ref l2), some (.ref l3), some (.int l4), none, none, none]) (st' := [.int (nI 2), .int l4, .ref l0, .int s0, .ref s1]) bf269_690 bf269_691 rfl rfl).trans ?_
  refine (bu (ls'' := [some (.ref l0), some (.ref l1), some (.ref l2), some (.ref l3), some (.int l4), none, none, none]) (st' := [.int (l4 + (nI 2)), .ref l0, .int s0, .ref s1]) bf269_691 bf269_692 rfl rfl).trans ?_
  exact bh bf269_692 bf269_693 rfl (fun _ _ => am_ge_rf w) rfl
theorem bk269_727 {w : am_Wd} {l0 : Nat} {l1 : Nat} {l2 : Nat} {l3 : Nat} {l4 : Int32} {s0 : Int32} {s1 : Nat} : am_run 269 727 [some (.ref l0), some (.ref l1), some (.ref l2), some (.ref l3), some (.int l4), none, none, none] [.int s0, .ref s1] w = (am_x 188 [.ref s1, .int s0, .ref l3] w).bind fun r => bct r fun v w' => am_run 269 731 [some (.ref l0), some (.ref l1), some (.ref l2), some (.ref l3), some (.int l4), none, none, none] (v.toList ++ []) w' := by
  refine (bu (ls'' := [some (.ref l0), some (.ref l1), some (.ref l2), some (.ref l3), some (.int l4), none, none, none]) (st' := [.ref l3, .int s0, .ref s1]) bf269_727 bf269_728 rfl rfl).trans ?_
  exact bkS bf269_728 bf269_731 rfl (by decide +kernel) (Nat.le_of_ble_eq_true rfl) rfl (bhd rfl)
theorem bk269_755 {w : am_Wd} {l0 : Nat} {l1 : Nat} {l2 : Nat} {l3 : Nat} {l4 : Int32} {s0 : Int32} {s1 : Nat} : am_run 269 755 [some (.ref l0), some (.ref l1), some (.ref l2), some (.ref l3), some (.int l4), none, none, none] [.int s0, .ref s1] w = (am_ri 0 w l0 (l4 + (nI 2))).bind fun v => am_run 269 761 [some (.ref l0), some (.ref l1), some (.ref l2), some (.ref l3), some (.int l4), none, none, none] (.int v :: [.int s0, .ref s1]) w := by
  refine (bu (ls'' := [some (.ref l0), some (.ref l1), some (.ref l2), some (.ref l3), some (.int l4), none, none, none]) (st' := [.ref l0, .int s0, .ref s1]) bf269_755 bf269_756 rfl rfl).trans ?_
  refine (bu (ls'' := [some (.ref l0), some (.ref l1), some (.ref l2), some (.ref l3), some (.int l4), none, none, none]) (st' := [.int l4, .ref l0, .int s0, .ref s1]) bf269_756 bf269_758 rfl rfl).trans ?_
  refine (bu (ls'' := [some (.ref l0), some (.ref l1), some (.ref l2), some (.ref l3), some (.int l4), none, none, none]) (st' := [.int (nI 2), .int l4, .ref l0, .int s0, .ref s1]) bf269_758 bf269_759 rfl rfl).trans ?_
  refine (bu (ls'' := [some (.ref l0), some (.ref l1), some (.ref l2), some (.ref l3), some (.int l4), none, none, none]) (st' := [.int (l4 + (nI 2)), .ref l0, .int s0, .ref s1]) bf269_759 bf269_760 rfl rfl).trans ?_
  exact bh bf269_760 bf269_761 rfl (fun _ _ => am_ge_rf w) rfl
theorem bk269_795 {w : am_Wd} {l0 : Nat} {l1 : Nat} {l2 : Nat} {l3 : Nat} {l4 : Int32} {s0 : Int32} {s1 : Nat} : am_run 269 795 [some (.ref l0), some (.ref l1), some (.ref l2), some (.ref l3), some (.int l4), none, none, none] [.int s0, .ref s1] w = (am_x 189 [.ref s1, .int s0, .ref l3] w).bind fun r => bct r fun v w' => am_run 269 799 [some (.ref l0), some (.ref l1), some (.ref l2), some (.ref l3), some (.int l4), none, none, none] (v.toList ++ []) w' := by
  refine (bu (ls'' := [some (.ref l0), some (.ref l1), some (.ref l2), some (.ref l3), some (.int l4), none, none, none]) (st' := [.ref l3, .int s0, .ref s1]) bf269_795 bf269_796 rfl rfl).trans ?_
  exact bkS bf269_796 bf269_799 rfl (by decide +kernel) (Nat.le_of_ble_eq_true rfl) rfl (bhd rfl)
theorem bk269_820 {w : am_Wd} {l0 : Nat} {l1 : Nat} {l2 : Nat} {l3 : Nat} {l4 : Int32} {s0 : Int32} : am_run 269 820 [some (.ref l0), some (.ref l1), some (.ref l2), some (.ref l3), some (.int l4), none, none, none] [.int s0] w = (am_kf w l2 11).bind fun _ => (am_x 47 [.ref l2] w).bind fun r => bct r fun v w' => am_run 269 825 [some (.ref l0), some (.ref l1), some (.ref l2), some (.ref l3), some (.int l4), none, none, none] (v.toList ++ []) w' := by
  refine (bu (ls'' := [some (.ref l0), some (.ref l1), some (.ref l2), some (.ref l3), some (.int l4), none, none, none]) (st' := []) bf269_820 bf269_821 rfl rfl).trans ?_
  refine (bu (ls'' := [some (.ref l0), some (.ref l1), some (.ref l2), some (.ref l3), some (.int l4), none, none, none]) (st' := [.ref l2]) bf269_821 bf269_822 rfl rfl).trans ?_
  exact bkV bf269_822 bf269_825 rfl (by decide +kernel) (Nat.le_of_ble_eq_true rfl) rfl (bhd rfl)
theorem bk269_836 {w : am_Wd} {l0 : Nat} {l1 : Nat} {l2 : Nat} {l3 : Nat} {l4 : Int32} {s0 : Int32} {s1 : Nat} : am_run 269 836 [some (.ref l0), some (.ref l1), some (.ref l2), some (.ref l3), some (.int l4), none, none, none] [.int s0, .ref s1] w = (am_ri 0 w l0 (l4 + (nI 2))).bind fun v => am_run 269 842 [some (.ref l0), some (.ref l1), some (.ref l2), some (.ref l3), some (.int l4), none, none, none] (.int v :: [.int s0, .ref s1]) w := by
  refine (bu (ls'' := [some (.ref l0), some (.ref l1), some (.ref l2), some (.ref l3), some (.int l4), none, none, none]) (st' := [.ref l0, .int s0, .ref s1]) bf269_836 bf269_837 rfl rfl).trans ?_
  refine (bu (ls'' := [some (.ref l0), some (.ref l1), some (.ref l2), some (.ref l3), some (.int l4), none, none, none]) (st' := [.int l4, .ref l0, .int s0, .ref s1]) bf269_837 bf269_839 rfl rfl).trans ?_
  refine (bu (ls'' := [some (.ref l0), some (.ref l1), some (.ref l2), some (.ref l3), some (.int l4), none, none, none]) (st' := [.int (nI 2), .int l4, .ref l0, .int s0, .ref s1]) bf269_839 bf269_840 rfl rfl).trans ?_
  refine (bu (ls'' := [some (.ref l0), some (.ref l1), some (.ref l2), some (.ref l3), some (.int l4), none, none, none]) (st' := [.int (l4 + (nI 2)), .ref l0, .int s0, .ref s1]) bf269_840 bf269_841 rfl rfl).trans ?_
  exact bh bf269_841 bf269_842 rfl (fun _ _ => am_ge_rf w) rfl
theorem bk269_888 {w : am_Wd} {l0 : Nat} {l1 : Nat} {l2 : Nat} {l3 : Nat} {l4 : Int32} {s0 : Int32} {s1 : Nat} : am_run 269 888 [some (.ref l0), some (.ref l1), some (.ref l2), some (.ref l3), some (.int l4), none, none, none] [.int s0, .ref s1] w = (am_ri 0 w l0 (l4 + (nI 2))).bind fun v => am_run 269 894 [some (.ref l0), some (.ref l1), some (.ref l2), some (.ref l3), some (.int l4), none, none, none] (.int v :: [.int s0, .ref s1]) w := by
  refine (bu (ls'' := [some (.ref l0), some (.ref l1), some (.ref l2), some (.ref l3), some (.int l4), none, none, none]) (st' := [.ref l0, .int s0, .ref s1]) bf269_888 bf269_889 rfl rfl).trans ?_
  refine (bu (ls'' := [some (.ref l0), some (.ref l1), some (.ref l2), some (.ref l3), some (.int l4), none, none, none]) (st' := [.int l4, .ref l0, .int s0, .ref s1]) bf269_889 bf269_891 rfl rfl).trans ?_
  refine (bu (ls'' := [some (.ref l0), some (.ref l1), some (.ref l2), some (.ref l3), some (.int l4), none, none, none]) (st' := [.int (nI 2), .int l4, .ref l0, .int s0, .ref s1]) bf269_891 bf269_892 rfl rfl).trans ?_
  refine (bu (ls'' := [some (.ref l0), some (.ref l1), some (.ref l2), some (.ref l3), some (.int l4), none, none, none]) (st' := [.int (l4 + (nI 2)), .ref l0, .int s0, .ref s1]) bf269_892 bf269_893 rfl rfl).trans ?_
  exact bh bf269_893 bf269_894 rfl (fun _ _ => am_ge_rf w) rfl
theorem bk269_928 {w : am_Wd} {l0 : Nat} {l1 : Nat} {l2 : Nat} {l3 : Nat} {l4 : Int32} {s0 : Int32} {s1 : Nat} : am_run 269 928 [some (.ref l0), some (.ref l1), some (.ref l2), some (.ref l3), some (.int l4), none, none, none] [.int s0, .ref s1] w = (am_x 190 [.ref s1, .int s0, .ref l3] w).bind fun r => bct r fun v w' => am_run 269 932 [some (.ref l0), some (.ref l1), some (.ref l2), some (.ref l3), some (.int l4), none, none, none] (v.toList ++ []) w' := by
  refine (bu (ls'' := [some (.ref l0), some (.ref l1), some (.ref l2), some (.ref l3), some (.int l4), none, none, none]) (st' := [.ref l3, .int s0, .ref s1]) bf269_928 bf269_929 rfl rfl).trans ?_
  exact bkS bf269_929 bf269_932 rfl (by decide +kernel) (Nat.le_of_ble_eq_true rfl) rfl (bhd rfl)
theorem bk269_956 {w : am_Wd} {l0 : Nat} {l1 : Nat} {l2 : Nat} {l3 : Nat} {l4 : Int32} {s0 : Int32} {s1 : Nat} : am_run 269 956 [some (.ref l0), some (.ref l1), some (.ref l2), some (.ref l3), some (.int l4), none, none, none] [.int s0, .ref s1] w = (am_x 257 [.ref s1, .int s0, .ref l3] w).bind fun r => bct r fun v w' => am_run 269 960 [some (.ref l0), some (.ref l1), some (.ref l2), some (.ref l3), some (.int l4), none, none, none] (v.toList ++ []) w' := by
  refine (bu (ls'' := [some (.ref l0), some (.ref l1), some (.ref l2), some (.ref l3), some (.int l4), none, none, none]) (st' := [.ref l3, .int s0, .ref s1]) bf269_956 bf269_957 rfl rfl).trans ?_
  exact bkS bf269_957 bf269_960 rfl (by decide +kernel) (Nat.le_of_ble_eq_true rfl) rfl (bhd rfl)
theorem bk269_1014 {w : am_Wd} {l0 : Nat} {l1 : Nat} {l2 : Nat} {l3 : Nat} {l4 : Int32} {s0 : Int32} {s1 : Nat} : am_run 269 1014 [some (.ref l0), some (.ref l1), some (.ref l2), some (.ref l3), some (.int l4), none, none, none] [.int s0, .ref s1] w = (am_ri 0 w l0 (l4 + (nI 2))).bind fun v => am_run 269 1020 [some (.ref l0), some (.ref l1), some (.ref l2), some (.ref l3), some (.int l4), none, none, none] (.int v :: [.int s0, .ref s1]) w := by
  refine (bu (ls'' := [some (.ref l0), some (.ref l1), some (.ref l2), some (.ref l3), some (.int l4), none, none, none]) (st' := [.ref l0, .int s0, .ref s1]) bf269_1014 bf269_1015 rfl rfl).trans ?_
  refine (bu (ls'' := [some (.ref l0), some (.ref l1), some (.ref l2), some (.ref l3), some (.int l4), none, none, none]) (st' := [.int l4, .ref l0, .int s0, .ref s1]) bf269_1015 bf269_1017 rfl rfl).trans ?_
  refine (bu (ls'' := [some (.ref l0), some (.ref l1), some (.ref l2), some (.ref l3), some (.int l4), none, none, none]) (st' := [.int (nI 2), .int l4, .ref l0, .int s0, .ref s1]) bf269_1017 bf269_1018 rfl rfl).trans ?_
  refine (bu (ls'' := [some (.ref l0), some (.ref l1), some (.ref l2), some (.ref l3), some (.int l4), none, none, none]) (st' := [.int (l4 + (nI 2)), .ref l0, .int s0, .ref s1]) bf269_1018 bf269_1019 rfl rfl).trans ?_
  exact bh bf269_1019 bf269_1020 rfl (fun _ _ => am_ge_rf w) rfl
theorem bk269_1066 {w : am_Wd} {l0 : Nat} {l1 : Nat} {l2 : Nat} {l3 : Nat} {l4 : Int32} {s0 : Int32} {s1 : Nat} : am_run 269 1066 [some (.ref l0), some (.ref l1), some (.ref l2), some (.ref l3), some (.int l4), none, none, none] [.int s0, .ref s1] w = (am_ri 0 w l0 (l4 + (nI 2))).bind fun v => am_run 269 1072 [some (.ref l0), some (.ref l1), some (.ref l2), some (.ref l3), some (.int l4), none, none, none] (.int v :: [.int s0, .ref s1]) w := by
  refine (bu (ls'' := [some (.ref l0), some (.ref l1), some (.ref l2), some (.ref l3), some (.int l4), none, none, none]) (st' := [.ref l0, .int s0, .ref s1]) bf269_1066 bf269_1067 rfl rfl).trans ?_
  refine (bu (ls'' := [some (.ref l0), some (.ref l1), some (.ref l2), some (.ref l3), some (.int l4), none, none, none]) (st' := [.int l4, .ref l0, .int s0, .ref s1]) bf269_1067 bf269_1069 rfl rfl).trans ?_
  refine (bu (ls'' := [some (.ref l0), some (.ref l1), some (.ref l2), some (.ref l3), some (.int l4), none, none, none]) (st' := [.int (nI 2), .int l4, .ref l0, .int s0, .ref s1]) bf269_1069 bf269_1070 rfl rfl).trans ?_
  refine (bu (ls'' := [some (.ref l0), some (.ref l1), some (.ref l2), some (.ref l3), some (.int l4), none, none, none]) (st' := [.int (l4 + (nI 2)), .ref l0, .int s0, .ref s1]) bf269_1070 bf269_1071 rfl rfl).trans ?_
  exact bh bf269_1071 bf269_1072 rfl (fun _ _ => am_ge_rf w) rfl
theorem bk269_1106 {w : am_Wd} {l0 : Nat} {l1 : Nat} {l2 : Nat} {l3 : Nat} {l4 : Int32} {s0 : Int32} {s1 : Nat} : am_run 269 1106 [some (.ref l0), some (.ref l1), some (.ref l2), some (.ref l3), some (.int l4), none, none, none] [.int s0, .ref s1] w = (am_ri 0 w l0 (l4 + (nI 2))).bind fun v => am_run 269 1112 [some (.ref l0), some (.ref l1), some (.ref l2), some (.ref l3), some (.int l4), none, none, none] (.int v :: [.int s0, .ref s1]) w := by
  refine (bu (ls'' := [some (.ref l0), some (.ref l1), some (.ref l2), some (.ref l3), some (.int l4), none, none, none]) (st' := [.ref l0, .int s0, .ref s1]) bf269_1106 bf269_1107 rfl rfl).trans ?_
  refine (bu (ls'' := [some (.ref l0), some (.ref l1), some (.ref l2), some (.ref l3), some (.int l4), none, none, none]) (st' := [.int l4, .ref l0, .int s0, .ref s1]) bf269_1107 bf269_1109 rfl rfl).trans ?_
  refine (bu (ls'' := [some (.ref l0), some (.ref l1), some (.ref l2), some (.ref l3), some (.int l4), none, none, none]) (st' := [.int (nI 2), .int l4, .ref l0, .int s0, .ref s1]) bf269_1109 bf269_1110 rfl rfl).trans ?_
  refine (bu (ls'' := [some (.ref l0), some (.ref l1), some (.ref l2), some (.ref l3), some (.int l4), none, none, none]) (st' := [.int (l4 + (nI 2)), .ref l0, .int s0, .ref s1]) bf269_1110 bf269_1111 rfl rfl).trans ?_
  exact bh bf269_1111 bf269_1112 rfl (fun _ _ => am_ge_rf w) rfl
theorem bk269_1146 {w : am_Wd} {l0 : Nat} {l1 : Nat} {l2 : Nat} {l3 : Nat} {l4 : Int32} {s0 : Int32} {s1 : Nat} : am_run 269 1146 [some (.ref l0), some (.ref l1), some (.ref l2), some (.ref l3), some (.int l4), none, none, none] [.int s0, .ref s1] w = (am_ri 0 w l0 (l4 + (nI 2))).bind fun v => am_run 269 1152 [some (.ref l0), some (.ref l1), some (.ref l2), some (.ref l3), some (.int l4), none, none, none] (.int v :: [.int s0, .ref s1]) w := by
  refine (bu (ls'' := [some (.ref l0), some (.ref l1), some (.ref l2), some (.ref l3), some (.int l4), none, none, none]) (st' := [.ref l0, .int s0, .ref s1]) bf269_1146 bf269_1147 rfl rfl).trans ?_
  refine (bu (ls'' := [some (.ref l0), some (.ref l1), some (.ref l2), some (.ref l3), some (.int l4), none, none, none]) (st' := [.int l4, .ref l0, .int s0, .ref s1]) bf269_1147 bf269_1149 rfl rfl).trans ?_
  refine (bu (ls'' := [some (.ref l0), some (.ref l1), some (.ref l2), some (.ref l3), some (.int l4), none, none, none]) (st' := [.int (nI 2), .int l4, .ref l0, .int s0, .ref s1]) bf269_1149 bf269_1150 rfl rfl).trans ?_
  refine (bu (ls'' := [some (.ref l0), some (.ref l1), some (.ref l2), some (.ref l3), some (.int l4), none, none, none]) (st' := [.int (l4 + (nI 2)), .ref l0, .int s0, .ref s1]) bf269_1150 bf269_1151 rfl rfl).trans ?_
  exact bh bf269_1151 bf269_1152 rfl (fun _ _ => am_ge_rf w) rfl
theorem bk269_1198 {w : am_Wd} {l0 : Nat} {l1 : Nat} {l2 : Nat} {l3 : Nat} {l4 : Int32} {s0 : Int32} {s1 : Nat} : am_run 269 1198 [some (.ref l0), some (.ref l1), some (.ref l2), some (.ref l3), some (.int l4), none, none, none] [.int s0, .ref s1] w = (am_ri 0 w l0 (l4 + (nI 2))).bind fun v => am_run 269 1204 [some (.ref l0), some (.ref l1), some (.ref l2), some (.ref l3), some (.int l4), none, none, none] (.int v :: [.int s0, .ref s1]) w := by
  refine (bu (ls'' := [some (.ref l0), some (.ref l1), some (.ref l2), some (.ref l3), some (.int l4), none, none, none]) (st' := [.ref l0, .int s0, .ref s1]) bf269_1198 bf269_1199 rfl rfl).trans ?_
  refine (bu (ls'' := [some (.ref l0), some (.ref l1), some (.ref l2), some (.ref l3), some (.int l4), none, none, none]) (st' := [.int l4, .ref l0, .int s0, .ref s1]) bf269_1199 bf269_1201 rfl rfl).trans ?_
  refine (bu (ls'' := [some (.ref l0), some (.ref l1), some (.ref l2), some (.ref l3), some (.int l4), none, none, none]) (st' := [.int (nI 2), .int l4, .ref l0, .int s0, .ref s1]) bf269_1201 bf269_1202 rfl rfl).trans ?_
  refine (bu (ls'' := [some (.ref l0), some (.ref l1), some (.ref l2), some (.ref l3), some (.int l4), none, none, none]) (st' := [.int (l4 + (nI 2)), .ref l0, .int s0, .ref s1]) bf269_1202 bf269_1203 rfl rfl).trans ?_
  exact bh bf269_1203 bf269_1204 rfl (fun _ _ => am_ge_rf w) rfl
theorem bk269_1238 {w : am_Wd} {l0 : Nat} {l1 : Nat} {l2 : Nat} {l3 : Nat} {l4 : Int32} {s0 : Int32} {s1 : Nat} : am_run 269 1238 [some (.ref l0), some (.ref l1), some (.ref l2), some (.ref l3), some (.int l4), none, none, none] [.int s0, .ref s1] w = (am_x 148 [.ref s1, .int s0, .ref l3] w).bind fun r => bct r fun v w' => am_run 269 1242 [some (.ref l0), some (.ref l1), some (.ref l2), some (.ref l3), some (.int l4), none, none, none] (v.toList ++ []) w' := by
  refine (bu (ls'' := [some (.ref l0), some (.ref l1), some (.ref l2), some (.ref l3), some (.int l4), none, none, none]) (st' := [.ref l3, .int s0, .ref s1]) bf269_1238 bf269_1239 rfl rfl).trans ?_
  exact bkS bf269_1239 bf269_1242 rfl (by decide +kernel) (Nat.le_of_ble_eq_true rfl) rfl (bhd rfl)
theorem bk269_1266 {w : am_Wd} {l0 : Nat} {l1 : Nat} {l2 : Nat} {l3 : Nat} {l4 : Int32} {s0 : Int32} {s1 : Nat} : am_run 269 1266 [some (.ref l0), some (.ref l1), some (.ref l2), some (.ref l3), some (.int l4), none, none, none] [.int s0, .ref s1] w = (am_ri 0 w l0 (l4 + (nI 2))).bind fun v => am_run 269 1272 [some (.ref l0), some (.ref l1), some (.ref l2), some (.ref l3), some (.int l4), none, none, none] (.int v :: [.int s0, .ref s1]) w := by
  refine (bu (ls'' := [some (.ref l0), some (.ref l1), some (.ref l2), some (.ref l3), some (.int l4), none, none, none]) (st' := [.ref l0, .int s0, .ref s1]) bf269_1266 bf269_1267 rfl rfl).trans ?_
  refine (bu (ls'' := [some (.ref l0), some (.ref l1), some (.ref l2), some (.ref l3), some (.int l4), none, none, none]) (st' := [.int l4, .ref l0, .int s0, .ref s1]) bf269_1267 bf269_1269 rfl rfl).trans ?_
  refine (bu (ls'' := [some (.ref l0), some (.ref l1), some (.ref l2), some (.ref l3), some (.int l4), none, none, none]) (st' := [.int (nI 2), .int l4, .ref l0, .int s0, .ref s1]) bf269_1269 bf269_1270 rfl rfl).trans ?_
  refine (bu (ls'' := [some (.ref l0), some (.ref l1), some (.ref l2), some (.ref l3), some (.int l4), none, none, none]) (st' := [.int (l4 + (nI 2)), .ref l0, .int s0, .ref s1]) bf269_1270 bf269_1271 rfl rfl).trans ?_
  exact bh bf269_1271 bf269_1272 rfl (fun _ _ => am_ge_rf w) rfl
theorem bk269_1306 {w : am_Wd} {l0 : Nat} {l1 : Nat} {l2 : Nat} {l3 : Nat} {l4 : Int32} {s0 : Int32} {s1 : Nat} : am_run 269 1306 [some (.ref l0), some (.ref l1), some (.ref l2), some (.ref l3), some (.int l4), none, none, none] [.int s0, .ref s1] w = (am_x 236 [.ref s1, .int s0, .ref l3] w).bind fun r => bct r fun v w' => am_run 269 1310 [some (.ref l0), some (.ref l1), some (.ref l2), some (.ref l3), some (.int l4), none, none, none] (v.toList ++ []) w' := by
  refine (bu (ls'' := [some (.ref l0), some (.ref l1), some (.ref l2), some (.ref l3), some (.int l4), none, none, none]) (st' := [.ref l3, .int s0, .ref s1]) bf269_1306 bf269_1307 rfl rfl).trans ?_
  exact bkS bf269_1307 bf269_1310 rfl (by decide +kernel) (Nat.le_of_ble_eq_true rfl) rfl (bhd rfl)
theorem bk269_1334 {w : am_Wd} {l0 : Nat} {l1 : Nat} {l2 : Nat} {l3 : Nat} {l4 : Int32} {s0 : Int32} {s1 : Nat} : am_run 269 1334 [some (.ref l0), some (.ref l1), some (.ref l2), some (.ref l3), some (.int l4), none, none, none] [.int s0, .ref s1] w = (am_ri 0 w l0 (l4 + (nI 2))).bind fun v => am_run 269 1340 [some (.ref l0), some (.ref l1), some (.ref l2), some (.ref l3), some (.int l4), none, none, none] (.int v :: [.int s0, .ref s1]) w := by
  refine (bu (ls'' := [some (.ref l0), some (.ref l1), some (.ref l2), some (.ref l3), some (.int l4), none, none, none]) (st' := [.ref l0, .int s0, .ref s1]) bf269_1334 bf269_1335 rfl rfl).trans ?_
  refine (bu (ls'' := [some (.ref l0), some (.ref l1), some (.ref l2), some (.ref l3), some (.int l4), none, none, none]) (st' := [.int l4, .ref l0, .int s0, .ref s1]) bf269_1335 bf269_1337 rfl rfl).trans ?_
  refine (bu (ls'' := [some (.ref l0), some (.ref l1), some (.ref l2), some (.ref l3), some (.int l4), none, none, none]) (st' := [.int (nI 2), .int l4, .ref l0, .int s0, .ref s1]) bf269_1337 bf269_1338 rfl rfl).trans ?_
  refine (bu (ls'' := [some (.ref l0), some (.ref l1), some (.ref l2), some (.ref l3), some (.int l4), none, none, none]) (st' := [.int (l4 + (nI 2)), .ref l0, .int s0, .ref s1]) bf269_1338 bf269_1339 rfl rfl).trans ?_
  exact bh bf269_1339 bf269_1340 rfl (fun _ _ => am_ge_rf w) rfl
theorem bk269_1374 {w : am_Wd} {l0 : Nat} {l1 : Nat} {l2 : Nat} {l3 : Nat} {l4 : Int32} {s0 : Int32} {s1 : Nat} : am_run 269 1374 [some (.ref l0), some (.ref l1), some (.ref l2), some (.ref l3), some (.int l4), none, none, none] [.int s0, .ref s1] w = (am_ri 0 w l0 (l4 + (nI 2))).bind fun v => am_run 269 1380 [some (.ref l0), some (.ref l1), some (.ref l2), some (.ref l3), some (.int l4), none, none, none] (.int v :: [.int s0, .ref s1]) w := by
  refine (bu (ls'' := [some (.ref l0), some (.ref l1), some (.ref l2), some (.ref l3), some (.int l4), none, none, none]) (st' := [.ref l0, .int s0, .ref s1]) bf269_1374 bf269_1375 rfl rfl).trans ?_
  refine (bu (ls'' := [some (.ref l0), some (.ref l1), some (.ref l2), some (.ref l3), some (.int l4), none, none, none]) (st' := [.int l4, .ref l0, .int s0, .ref s1]) bf269_1375 bf269_1377 rfl rfl).trans ?_
  refine (bu (ls'' := [some (.ref l0), some (.ref l1), some (.ref l2), some (.ref l3), some (.int l4), none, none, none]) (st' := [.int (nI 2), .int l4, .ref l0, .int s0, .ref s1]) bf269_1377 bf269_1378 rfl rfl).trans ?_
  refine (bu (ls'' := [some (.ref l0), some (.ref l1), some (.ref l2), some (.ref l3), some (.int l4), none, none, none]) (st' := [.int (l4 + (nI 2)), .ref l0, .int s0, .ref s1]) bf269_1378 bf269_1379 rfl rfl).trans ?_
  exact bh bf269_1379 bf269_1380 rfl (fun _ _ => am_ge_rf w) rfl
theorem bk269_1411 {w : am_Wd} {l0 : Nat} {l1 : Nat} {l2 : Nat} {l3 : Nat} {l4 : Int32} {s0 : Int32} : am_run 269 1411 [some (.ref l0), some (.ref l1), some (.ref l2), some (.ref l3), some (.int l4), none, none, none] [.int s0] w = (am_kf w l2 11).bind fun _ => (am_x 215 [.ref l2] w).bind fun r => bct r fun v w' => am_run 269 1416 [some (.ref l0), some (.ref l1), some (.ref l2), some (.ref l3), some (.int l4), none, none, none] (v.toList ++ []) w' := by
  refine (bu (ls'' := [some (.ref l0), some (.ref l1), some (.ref l2), some (.ref l3), some (.int l4), none, none, none]) (st' := []) bf269_1411 bf269_1412 rfl rfl).trans ?_
  refine (bu (ls'' := [some (.ref l0), some (.ref l1), some (.ref l2), some (.ref l3), some (.int l4), none, none, none]) (st' := [.ref l2]) bf269_1412 bf269_1413 rfl rfl).trans ?_
  exact bkV bf269_1413 bf269_1416 rfl (by decide +kernel) (Nat.le_of_ble_eq_true rfl) rfl (bhd rfl)
theorem bk269_1424 {w : am_Wd} {l0 : Nat} {l1 : Nat} {l2 : Nat} {l3 : Nat} {l4 : Int32} {s0 : Int64} : am_run 269 1424 [some (.ref l0), some (.ref l1), some (.ref l2), some (.ref l3), some (.int l4), none, none, none] [.long s0] w = (am_kf w l2 11).bind fun _ => (am_x 265 [.ref l2] w).bind fun r => bct r fun v w' => am_run 269 1429 [some (.ref l0), some (.ref l1), some (.ref l2), some (.ref l3), some (.int l4), none, none, none] (v.toList ++ []) w' := by
  refine (bu (ls'' := [some (.ref l0), some (.ref l1), some (.ref l2), some (.ref l3), some (.int l4), none, none, none]) (st' := []) bf269_1424 bf269_1425 rfl rfl).trans ?_
  refine (bu (ls'' := [some (.ref l0), some (.ref l1), some (.ref l2), some (.ref l3), some (.int l4), none, none, none]) (st' := [.ref l2]) bf269_1425 bf269_1426 rfl rfl).trans ?_
  exact bkV bf269_1426 bf269_1429 rfl (by decide +kernel) (Nat.le_of_ble_eq_true rfl) rfl (bhd rfl)
theorem bk269_185 {w : am_Wd} {l0 : Nat} {l1 : Nat} {l2 : Nat} {l3 : Nat} {l4 : Int32} {s0 : Int32} {s1 : Int32} {s2 : Nat} : am_run 269 185 [some (.ref l0), some (.ref l1), some (.ref l2), some (.ref l3), some (.int l4), none, none, none] [.int s0, .int s1, .ref s2] w = (am_ri 0 w l0 (l4 + (nI 3))).bind fun v => am_run 269 191 [some (.ref l0), some (.ref l1), some (.ref l2), some (.ref l3), some (.int l4), none, none, none] (.int v :: [.int s0, .int s1, .ref s2]) w := by
  refine (bu (ls'' := [some (.ref l0), some (.ref l1), some (.ref l2), some (.ref l3), some (.int l4), none, none, none]) (st' := [.ref l0, .int s0, .int s1, .ref s2]) bf269_185 bf269_186 rfl rfl).trans ?_
  refine (bu (ls'' := [some (.ref l0), some (.ref l1), some (.ref l2), some (.ref l3), some (.int l4), none, none, none]) (st' := [.int l4, .ref l0, .int s0, .int s1, .ref s2]) bf269_186 bf269_188 rfl rfl).trans ?_
  refine (bu (ls'' := [some (.ref l0), some (.ref l1), some (.ref l2), some (.ref l3), some (.int l4), none, none, none]) (st' := [.int (nI 3), .int l4, .ref l0, .int s0, .int s1, .ref s2]) bf269_188 bf269_189 rfl rfl).trans ?_
  refine (bu (ls'' := [some (.ref l0), some (.ref l1), some (.ref l2), some (.ref l3), some (.int l4), none, none, none]) (st' := [.int (l4 + (nI 3)), .ref l0, .int s0, .int s1, .ref s2]) bf269_189 bf269_190 rfl rfl).trans ?_
  exact bh bf269_190 bf269_191 rfl (fun _ _ => am_ge_rf w) rfl
theorem bk269_247 {w : am_Wd} {l0 : Nat} {l1 : Nat} {l2 : Nat} {l3 : Nat} {l4 : Int32} {s0 : Int32} : am_run 269 247 [some (.ref l0), some (.ref l1), some (.ref l2), some (.ref l3), some (.int l4), none, none, none] [.int s0] w = (am_ri 0 w l0 (l4 + (nI 1))).bind fun v => am_run 269 256 [some (.ref l0), some (.ref l1), some (.ref l2), some (.ref l3), some (.int l4), none, none, none] (.int v :: [.ref l2]) w := by
  refine (bu (ls'' := [some (.ref l0), some (.ref l1), some (.ref l2), some (.ref l3), some (.int l4), none, none, none]) (st' := []) bf269_247 bf269_249 rfl rfl).trans ?_
  refine (bu (ls'' := [some (.ref l0), some (.ref l1), some (.ref l2), some (.ref l3), some (.int l4), none, none, none]) (st' := [.ref l2]) bf269_249 bf269_250 rfl rfl).trans ?_
  refine (bu (ls'' := [some (.ref l0), some (.ref l1), some (.ref l2), some (.ref l3), some (.int l4), none, none, none]) (st' := [.ref l0, .ref l2]) bf269_250 bf269_251 rfl rfl).trans ?_
  refine (bu (ls'' := [some (.ref l0), some (.ref l1), some (.ref l2), some (.ref l3), some (.int l4), none, none, none]) (st' := [.int l4, .ref l0, .ref l2]) bf269_251 bf269_253 rfl rfl).trans ?_
  refine (bu (ls'' := [some (.ref l0), some (.ref l1), some (.ref l2), some (.ref l3), some (.int l4), none, none, none]) (st' := [.int (nI 1), .int l4, .ref l0, .ref l2]) bf269_253 bf269_254 rfl rfl).trans ?_
  refine (bu (ls'' := [some (.ref l0), some (.ref l1), some (.ref l2), some (.ref l3), some (.int l4), none, none, none]) (st' := [.int (l4 + (nI 1)), .ref l0, .ref l2]) bf269_254 bf269_255 rfl rfl).trans ?_
  exact bh bf269_255 bf269_256 rfl (fun _ _ => am_ge_rf w) rfl
theorem bk269_277 {w : am_Wd} {l0 : Nat} {l1 : Nat} {l2 : Nat} {l3 : Nat} {l4 : Int32} {s0 : Int32} {s1 : Int32} {s2 : Nat} : am_run 269 277 [some (.ref l0), some (.ref l1), some (.ref l2), some (.ref l3), some (.int l4), none, none, none] [.int s0, .int s1, .ref s2] w = if s0 = nI 0 then am_run 269 284 [some (.ref l0), some (.ref l1), some (.ref l2), some (.ref l3), some (.int l4), none, none, none] [.int s1, .ref s2] w else am_run 269 280 [some (.ref l0), some (.ref l1), some (.ref l2), some (.ref l3), some (.int l4), none, none, none] [.int s1, .ref s2] w := by
  exact bifc bf269_277 rfl bf269_284 bf269_280 rfl rfl rfl
theorem bk269_361 {w : am_Wd} {l0 : Nat} {l1 : Nat} {l2 : Nat} {l3 : Nat} {l4 : Int32} {s0 : Int32} {s1 : Int32} {s2 : Nat} : am_run 269 361 [some (.ref l0), some (.ref l1), some (.ref l2), some (.ref l3), some (.int l4), none, none, none] [.int s0, .int s1, .ref s2] w = (am_ri 0 w l0 (l4 + (nI 3))).bind fun v => am_run 269 367 [some (.ref l0), some (.ref l1), some (.ref l2), some (.ref l3), some (.int l4), none, none, none] (.int v :: [.int s0, .int s1, .ref s2]) w := by
  refine (bu (ls'' := [some (.ref l0), some (.ref l1), some (.ref l2), some (.ref l3), some (.int l4), none, none, none]) (st' := [.ref l0, .int s0, .int s1, .ref s2]) bf269_361 bf269_362 rfl rfl).trans ?_
  refine (bu (ls'' := [some (.ref l0), some (.ref l1), some (.ref l2), some (.ref l3), some (.int l4), none, none, none]) (st' := [.int l4, .ref l0, .int s0, .int s1, .ref s2]) bf269_362 bf269_364 rfl rfl).trans ?_
  refine (bu (ls'' := [some (.ref l0), some (.ref l1), some (.ref l2), some (.ref l3), some (.int l4), none, none, none]) (st' := [.int (nI 3), .int l4, .ref l0, .int s0, .int s1, .ref s2]) bf269_364 bf269_365 rfl rfl).trans ?_
  refine (bu (ls'' := [some (.ref l0), some (.ref l1), some (.ref l2), some (.ref l3), some (.int l4), none, none, none]) (st' := [.int (l4 + (nI 3)), .ref l0, .int s0, .int s1, .ref s2]) bf269_365 bf269_366 rfl rfl).trans ?_
  exact bh bf269_366 bf269_367 rfl (fun _ _ => am_ge_rf w) rfl
theorem bk269_441 {w : am_Wd} {l0 : Nat} {l1 : Nat} {l2 : Nat} {l3 : Nat} {l4 : Int32} {s0 : Int32} {s1 : Int32} {s2 : Nat} : am_run 269 441 [some (.ref l0), some (.ref l1), some (.ref l2), some (.ref l3), some (.int l4), none, none, none] [.int s0, .int s1, .ref s2] w = if s0 = nI 0 then am_run 269 448 [some (.ref l0), some (.ref l1), some (.ref l2), some (.ref l3), some (.int l4), none, none, none] [.int s1, .ref s2] w else am_run 269 444 [some (.ref l0), some (.ref l1), some (.ref l2), some (.ref l3), some (.int l4), none, none, none] [.int s1, .ref s2] w := by
  exact bifc bf269_441 rfl bf269_448 bf269_444 rfl rfl rfl
theorem bk269_497 {w : am_Wd} {l0 : Nat} {l1 : Nat} {l2 : Nat} {l3 : Nat} {l4 : Int32} {s0 : Int32} {s1 : Int32} {s2 : Nat} : am_run 269 497 [some (.ref l0), some (.ref l1), some (.ref l2), some (.ref l3), some (.int l4), none, none, none] [.int s0, .int s1, .ref s2] w = if s0 = nI 0 then am_run 269 504 [some (.ref l0), some (.ref l1), some (.ref l2), some (.ref l3), some (.int l4), none, none, none] [.int s1, .ref s2] w else am_run 269 500 [some (.ref l0), some (.ref l1), some (.ref l2), some (.ref l3), some (.int l4), none, none, none] [.int s1, .ref s2] w := by
  exact bifc bf269_497 rfl bf269_504 bf269_500 rfl rfl rfl
theorem bk269_581 {w : am_Wd} {l0 : Nat} {l1 : Nat} {l2 : Nat} {l3 : Nat} {l4 : Int32} {s0 : Int32} {s1 : Int32} {s2 : Nat} : am_run 269 581 [some (.ref l0), some (.ref l1), some (.ref l2), some (.ref l3), some (.int l4), none, none, none] [.int s0, .int s1, .ref s2] w = if s0 = nI 0 then am_run 269 588 [some (.ref l0), some (.ref l1), some (.ref l2), some (.ref l3), some (.int l4), none, none, none] [.int s1, .ref s2] w else am_run 269 584 [some (.ref l0), some (.ref l1), some (.ref l2), some (.ref l3), some (.int l4), none, none, none] [.int s1, .ref s2] w := by
  exact bifc bf269_581 rfl bf269_588 bf269_584 rfl rfl rfl
theorem bk269_637 {w : am_Wd} {l0 : Nat} {l1 : Nat} {l2 : Nat} {l3 : Nat} {l4 : Int32} {s0 : Int32} {s1 : Int32} {s2 : Nat} : am_run 269 637 [some (.ref l0), some (.ref l1), some (.ref l2), some (.ref l3), some (.int l4), none, none, none] [.int s0, .int s1, .ref s2] w = if s0 = nI 0 then am_run 269 644 [some (.ref l0), some (.ref l1), some (.ref l2), some (.ref l3), some (.int l4), none, none, none] [.int s1, .ref s2] w else am_run 269 640 [some (.ref l0), some (.ref l1), some (.ref l2), some (.ref l3), some (.int l4), none, none, none] [.int s1, .ref s2] w := by
  exact bifc bf269_637 rfl bf269_644 bf269_640 rfl rfl rfl
theorem bk269_693 {w : am_Wd} {l0 : Nat} {l1 : Nat} {l2 : Nat} {l3 : Nat} {l4 : Int32} {s0 : Int32} {s1 : Int32} {s2 : Nat} : am_run 269 693 [some (.ref l0), some (.ref l1), some (.ref l2), some (.ref l3), some (.int l4), none, none, none] [.int s0, .int s1, .ref s2] w = (am_x 187 [.ref s2, .int s1, .int s0, .ref l3] w).bind fun r => bct r fun v w' => am_run 269 697 [some (.ref l0), some (.ref l1), some (.ref l2), some (.ref l3), some (.int l4), none, none, none] (v.toList ++ []) w' := by
  refine (bu (ls'' := [some (.ref l0), some (.ref l1), some (.ref l2), some (.ref l3), some (.int l4), none, none, none]) (st' := [.ref l3, .int s0, .int s1, .ref s2]) bf269_693 bf269_694 rfl rfl).trans ?_
  exact bkS bf269_694 bf269_697 rfl (by decide +kernel) (Nat.le_of_ble_eq_true rfl) rfl (bhd rfl)
theorem bk269_731 {w : am_Wd} {l0 : Nat} {l1 : Nat} {l2 : Nat} {l3 : Nat} {l4 : Int32} {s0 : Int32} : am_run 269 731 [some (.ref l0), some (.ref l1), some (.ref l2), some (.ref l3), some (.int l4), none, none, none] [.int s0] w = (am_ri 0 w l0 (l4 + (nI 1))).bind fun v => am_run 269 740 [some (.ref l0), some (.ref l1), some (.ref l2), some (.ref l3), some (.int l4), none, none, none] (.int v :: [.ref l2]) w := by
  refine (bu (ls'' := [some (.ref l0), some (.ref l1), some (.ref l2), some (.ref l3), some (.int l4), none, none, none]) (st' := []) bf269_731 bf269_733 rfl rfl).trans ?_
  refine (bu (ls'' := [some (.ref l0), some (.ref l1), some (.ref l2), some (.ref l3), some (.int l4), none, none, none]) (st' := [.ref l2]) bf269_733 bf269_734 rfl rfl).trans ?_
  refine (bu (ls'' := [some (.ref l0), some (.ref l1), some (.ref l2), some (.ref l3), some (.int l4), none, none, none]) (st' := [.ref l0, .ref l2]) bf269_734 bf269_735 rfl rfl).trans ?_
  refine (bu (ls'' := [some (.ref l0), some (.ref l1), some (.ref l2), some (.ref l3), some (.int l4), none, none, none]) (st' := [.int l4, .ref l0, .ref l2]) bf269_735 bf269_737 rfl rfl).trans ?_
  refine (bu (ls'' := [some (.ref l0), some (.ref l1), some (.ref l2), some (.ref l3), some (.int l4), none, none, none]) (st' := [.int (nI 1), .int l4, .ref l0, .ref l2]) bf269_737 bf269_738 rfl rfl).trans ?_
  refine (bu (ls'' := [some (.ref l0), some (.ref l1), some (.ref l2), some (.ref l3), some (.int l4), none, none, none]) (st' := [.int (l4 + (nI 1)), .ref l0, .ref l2]) bf269_738 bf269_739 rfl rfl).trans ?_
  exact bh bf269_739 bf269_740 rfl (fun _ _ => am_ge_rf w) rfl
theorem bk269_761 {w : am_Wd} {l0 : Nat} {l1 : Nat} {l2 : Nat} {l3 : Nat} {l4 : Int32} {s0 : Int32} {s1 : Int32} {s2 : Nat} : am_run 269 761 [some (.ref l0), some (.ref l1), some (.ref l2), some (.ref l3), some (.int l4), none, none, none] [.int s0, .int s1, .ref s2] w = (am_x 218 [.ref s2, .int s1, .int s0, .ref l3] w).bind fun r => bct r fun v w' => am_run 269 765 [some (.ref l0), some (.ref l1), some (.ref l2), some (.ref l3), some (.int l4), none, none, none] (v.toList ++ []) w' := by
  refine (bu (ls'' := [some (.ref l0), some (.ref l1), some (.ref l2), some (.ref l3), some (.int l4), none, none, none]) (st' := [.ref l3, .int s0, .int s1, .ref s2]) bf269_761 bf269_762 rfl rfl).trans ?_
  exact bkS bf269_762 bf269_765 rfl (by decide +kernel) (Nat.le_of_ble_eq_true rfl) rfl (bhd rfl)
theorem bk269_799 {w : am_Wd} {l0 : Nat} {l1 : Nat} {l2 : Nat} {l3 : Nat} {l4 : Int32} {s0 : Int32} : am_run 269 799 [some (.ref l0), some (.ref l1), some (.ref l2), some (.ref l3), some (.int l4), none, none, none] [.int s0] w = (am_ri 0 w l0 (l4 + (nI 1))).bind fun v => am_run 269 808 [some (.ref l0), some (.ref l1), some (.ref l2), some (.ref l3), some (.int l4), none, none, none] (.int v :: [.ref l2]) w := by
  refine (bu (ls'' := [some (.ref l0), some (.ref l1), some (.ref l2), some (.ref l3), some (.int l4), none, none, none]) (st' := []) bf269_799 bf269_801 rfl rfl).trans ?_
  refine (bu (ls'' := [some (.ref l0), some (.ref l1), some (.ref l2), some (.ref l3), some (.int l4), none, none, none]) (st' := [.ref l2]) bf269_801 bf269_802 rfl rfl).trans ?_
  refine (bu (ls'' := [some (.ref l0), some (.ref l1), some (.ref l2), some (.ref l3), some (.int l4), none, none, none]) (st' := [.ref l0, .ref l2]) bf269_802 bf269_803 rfl rfl).trans ?_
  refine (bu (ls'' := [some (.ref l0), some (.ref l1), some (.ref l2), some (.ref l3), some (.int l4), none, none, none]) (st' := [.int l4, .ref l0, .ref l2]) bf269_803 bf269_805 rfl rfl).trans ?_
  refine (bu (ls'' := [some (.ref l0), some (.ref l1), some (.ref l2), some (.ref l3), some (.int l4), none, none, none]) (st' := [.int (nI 1), .int l4, .ref l0, .ref l2]) bf269_805 bf269_806 rfl rfl).trans ?_
  refine (bu (ls'' := [some (.ref l0), some (.ref l1), some (.ref l2), some (.ref l3), some (.int l4), none, none, none]) (st' := [.int (l4 + (nI 1)), .ref l0, .ref l2]) bf269_806 bf269_807 rfl rfl).trans ?_
  exact bh bf269_807 bf269_808 rfl (fun _ _ => am_ge_rf w) rfl
theorem bk269_825 {w : am_Wd} {l0 : Nat} {l1 : Nat} {l2 : Nat} {l3 : Nat} {l4 : Int32} {s0 : Int32} : am_run 269 825 [some (.ref l0), some (.ref l1), some (.ref l2), some (.ref l3), some (.int l4), none, none, none] [.int s0] w = am_run 269 1433 [some (.ref l0), some (.ref l1), some (.ref l2), some (.ref l3), some (.int l4), none, none, none] [] w := by
  refine (bu (ls'' := [some (.ref l0), some (.ref l1), some (.ref l2), some (.ref l3), some (.int l4), none, none, none]) (st' := []) bf269_825 bf269_826 rfl rfl).trans ?_
  refine (bu (ls'' := [some (.ref l0), some (.ref l1), some (.ref l2), some (.ref l3), some (.int l4), none, none, none]) (st' := []) bf269_826 bf269_1433 rfl rfl).trans ?_
  rfl
theorem bk269_842 {w : am_Wd} {l0 : Nat} {l1 : Nat} {l2 : Nat} {l3 : Nat} {l4 : Int32} {s0 : Int32} {s1 : Int32} {s2 : Nat} : am_run 269 842 [some (.ref l0), some (.ref l1), some (.ref l2), some (.ref l3), some (.int l4), none, none, none] [.int s0, .int s1, .ref s2] w = (am_ri 0 w l0 (l4 + (nI 3))).bind fun v => am_run 269 848 [some (.ref l0), some (.ref l1), some (.ref l2), some (.ref l3), some (.int l4), none, none, none] (.int v :: [.int s0, .int s1, .ref s2]) w := by
  refine (bu (ls'' := [some (.ref l0), some (.ref l1), some (.ref l2), some (.ref l3), some (.int l4), none, none, none]) (st' := [.ref l0, .int s0, .int s1, .ref s2]) bf269_842 bf269_843 rfl rfl).trans ?_
  refine (bu (ls'' := [some (.ref l0), some (.ref l1), some (.ref l2), some (.ref l3), some (.int l4), none, none, none]) (st' := [.int l4, .ref l0, .int s0, .int s1, .ref s2]) bf269_843 bf269_845 rfl rfl).trans ?_
  refine (bu (ls'' := [some (.ref l0), some (.ref l1), some (.ref l2), some (.ref l3), some (.int l4), none, none, none]) (st' := [.int (nI 3), .int l4, .ref l0, .int s0, .int s1, .ref s2]) bf269_845 bf269_846 rfl rfl).trans ?_
  refine (bu (ls'' := [some (.ref l0), some (.ref l1), some (.ref l2), some (.ref l3), some (.int l4), none, none, none]) (st' := [.int (l4 + (nI 3)), .ref l0, .int s0, .int s1, .ref s2]) bf269_846 bf269_847 rfl rfl).trans ?_
  exact bh bf269_847 bf269_848 rfl (fun _ _ => am_ge_rf w) rfl
theorem bk269_894 {w : am_Wd} {l0 : Nat} {l1 : Nat} {l2 : Nat} {l3 : Nat} {l4 : Int32} {s0 : Int32} {s1 : Int32} {s2 : Nat} : am_run 269 894 [some (.ref l0), some (.ref l1), some (.ref l2), some (.ref l3), some (.int l4), none, none, none] [.int s0, .int s1, .ref s2] w = (am_x 234 [.ref s2, .int s1, .int s0, .ref l3] w).bind fun r => bct r fun v w' => am_run 269 898 [some (.ref l0), some (.ref l1), some (.ref l2), some (.ref l3), some (.int l4), none, none, none] (v.toList ++ []) w' := by
  refine (bu (ls'' := [some (.ref l0), some (.ref l1), some (.ref l2), some (.ref l3), some (.int l4), none, none, none]) (st' := [.ref l3, .int s0, .int s1, .ref s2]) bf269_894 bf269_895 rfl rfl).trans ?_
  exact bkS bf269_895 bf269_898 rfl (by decide +kernel) (Nat.le_of_ble_eq_true rfl) rfl (bhd rfl)
theorem bk269_932 {w : am_Wd} {l0 : Nat} {l1 : Nat} {l2 : Nat} {l3 : Nat} {l4 : Int32} {s0 : Int32} : am_run 269 932 [some (.ref l0), some (.ref l1), some (.ref l2), some (.ref l3), some (.int l4), none, none, none] [.int s0] w = (am_ri 0 w l0 (l4 + (nI 1))).bind fun v => am_run 269 941 [some (.ref l0), some (.ref l1), some (.ref l2), some (.ref l3), some (.int l4), none, none, none] (.int v :: [.ref l2]) w := by
  refine (bu (ls'' := [some (.ref l0), some (.ref l1), some (.ref l2), some (.ref l3), some (.int l4), none, none, none]) (st' := []) bf269_932 bf269_934 rfl rfl).trans ?_
  refine (bu (ls'' := [some (.ref l0), some (.ref l1), some (.ref l2), some (.ref l3), some (.int l4), none, none, none]) (st' := [.ref l2]) bf269_934 bf269_935 rfl rfl).trans ?_
  refine (bu (ls'' := [some (.ref l0), some (.ref l1), some (.ref l2), some (.ref l3), some (.int l4), none, none, none]) (st' := [.ref l0, .ref l2]) bf269_935 bf269_936 rfl rfl).trans ?_
  refine (bu (ls'' := [some (.ref l0), some (.ref l1), some (.ref l2), some (.ref l3), some (.int l4), none, none, none]) (st' := [.int l4, .ref l0, .ref l2]) bf269_936 bf269_938 rfl rfl).trans ?_
  refine (bu (ls'' := [some (.ref l0), some (.ref l1), some (.ref l2), some (.ref l3), some (.int l4), none, none, none]) (st' := [.int (nI 1), .int l4, .ref l0, .ref l2]) bf269_938 bf269_939 rfl rfl).trans ?_
  refine (bu (ls'' := [some (.ref l0), some (.ref l1), some (.ref l2), some (.ref l3), some (.int l4), none, none, none]) (st' := [.int (l4 + (nI 1)), .ref l0, .ref l2]) bf269_939 bf269_940 rfl rfl).trans ?_
  exact bh bf269_940 bf269_941 rfl (fun _ _ => am_ge_rf w) rfl
theorem bk269_960 {w : am_Wd} {l0 : Nat} {l1 : Nat} {l2 : Nat} {l3 : Nat} {l4 : Int32} {s0 : Int32} : am_run 269 960 [some (.ref l0), some (.ref l1), some (.ref l2), some (.ref l3), some (.int l4), none, none, none] [.int s0] w = (am_ri 0 w l0 (l4 + (nI 1))).bind fun v => am_run 269 969 [some (.ref l0), some (.ref l1), some (.ref l2), some (.ref l3), some (.int l4), some (.int s0), none, none] (.int v :: [.ref l2]) w := by
  refine (bu (ls'' := [some (.ref l0), some (.ref l1), some (.ref l2), some (.ref l3), some (.int l4), some (.int s0), none, none]) (st' := []) bf269_960 bf269_962 rfl rfl).trans ?_
  refine (bu (ls'' := [some (.ref l0), some (.ref l1), some (.ref l2), some (.ref l3), some (.int l4), some (.int s0), none, none]) (st' := [.ref l2]) bf269_962 bf269_963 rfl rfl).trans ?_
  refine (bu (ls'' := [some (.ref l0), some (.ref l1), some (.ref l2), some (.ref l3), some (.int l4), some (.int s0), none, none]) (st' := [.ref l0, .ref l2]) bf269_963 bf269_964 rfl rfl).trans ?_
  refine (bu (ls'' := [some (.ref l0), some (.ref l1), some (.ref l2), some (.ref l3), some (.int l4), some (.int s0), none, none]) (st' := [.int l4, .ref l0, .ref l2]) bf269_964 bf269_966 rfl rfl).trans ?_
  refine (bu (ls'' := [some (.ref l0), some (.ref l1), some (.ref l2), some (.ref l3), some (.int l4), some (.int s0), none, none]) (st' := [.int (nI 1), .int l4, .ref l0, .ref l2]) bf269_966 bf269_967 rfl rfl).trans ?_
  refine (bu (ls'' := [some (.ref l0), some (.ref l1), some (.ref l2), some (.ref l3), some (.int l4), some (.int s0), none, none]) (st' := [.int (l4 + (nI 1)), .ref l0, .ref l2]) bf269_967 bf269_968 rfl rfl).trans ?_
  exact bh bf269_968 bf269_969 rfl (fun _ _ => am_ge_rf w) rfl
theorem bk269_1020 {w : am_Wd} {l0 : Nat} {l1 : Nat} {l2 : Nat} {l3 : Nat} {l4 : Int32} {s0 : Int32} {s1 : Int32} {s2 : Nat} : am_run 269 1020 [some (.ref l0), some (.ref l1), some (.ref l2), some (.ref l3), some (.int l4), none, none, none] [.int s0, .int s1, .ref s2] w = (am_ri 0 w l0 (l4 + (nI 3))).bind fun v => am_run 269 1026 [some (.ref l0), some (.ref l1), some (.ref l2), some (.ref l3), some (.int l4), none, none, none] (.int v :: [.int s0, .int s1, .ref s2]) w := by
  refine (bu (ls'' := [some (.ref l0), some (.ref l1), some (.ref l2), some (.ref l3), some (.int l4), none, none, none]) (st' := [.ref l0, .int s0, .int s1, .ref s2]) bf269_1020 bf269_1021 rfl rfl).trans ?_
  refine (bu (ls'' := [some (.ref l0), some (.ref l1), some (.ref l2), some (.ref l3), some (.int l4), none, none, none]) (st' := [.int l4, .ref l0, .int s0, .int s1, .ref s2]) bf269_1021 bf269_1023 rfl rfl).trans ?_
  refine (bu (ls'' := [some (.ref l0), some (.ref l1), some (.ref l2), some (.ref l3), some (.int l4), none, none, none]) (st' := [.int (nI 3), .int l4, .ref l0, .int s0, .int s1, .ref s2]) bf269_1023 bf269_1024 rfl rfl).trans ?_
  refine (bu (ls'' := [some (.ref l0), some (.ref l1), some (.ref l2), some (.ref l3), some (.int l4), none, none, none]) (st' := [.int (l4 + (nI 3)), .ref l0, .int s0, .int s1, .ref s2]) bf269_1024 bf269_1025 rfl rfl).trans ?_
  exact bh bf269_1025 bf269_1026 rfl (fun _ _ => am_ge_rf w) rfl
theorem bk269_1072 {w : am_Wd} {l0 : Nat} {l1 : Nat} {l2 : Nat} {l3 : Nat} {l4 : Int32} {s0 : Int32} {s1 : Int32} {s2 : Nat} : am_run 269 1072 [some (.ref l0), some (.ref l1), some (.ref l2), some (.ref l3), some (.int l4), none, none, none] [.int s0, .int s1, .ref s2] w = (am_x 192 [.ref s2, .int s1, .int s0, .ref l3] w).bind fun r => bct r fun v w' => am_run 269 1076 [some (.ref l0), some (.ref l1), some (.ref l2), some (.ref l3), some (.int l4), none, none, none] (v.toList ++ []) w' := by
  refine (bu (ls'' := [some (.ref l0), some (.ref l1), some (.ref l2), some (.ref l3), some (.int l4), none, none, none]) (st' := [.ref l3, .int s0, .int s1, .ref s2]) bf269_1072 bf269_1073 rfl rfl).trans ?_
  exact bkS bf269_1073 bf269_1076 rfl (by decide +kernel) (Nat.le_of_ble_eq_true rfl) rfl (bhd rfl)
theorem bk269_1112 {w : am_Wd} {l0 : Nat} {l1 : Nat} {l2 : Nat} {l3 : Nat} {l4 : Int32} {s0 : Int32} {s1 : Int32} {s2 : Nat} : am_run 269 1112 [some (.ref l0), some (.ref l1), some (.ref l2), some (.ref l3), some (.int l4), none, none, none] [.int s0, .int s1, .ref s2] w = (am_x 193 [.ref s2, .int s1, .int s0, .ref l3] w).bind fun r => bct r fun v w' => am_run 269 1116 [some (.ref l0), some (.ref l1), some (.ref l2), some (.ref l3), some (.int l4), none, none, none] (v.toList ++ []) w' := by
  refine (bu (ls'' := [some (.ref l0), some (.ref l1), some (.ref l2), some (.ref l3), some (.int l4), none, none, none]) (st' := [.ref l3, .int s0, .int s1, .ref s2]) bf269_1112 bf269_1113 rfl rfl).trans ?_
  exact bkS bf269_1113 bf269_1116 rfl (by decide +kernel) (Nat.le_of_ble_eq_true rfl) rfl (bhd rfl)
theorem bk269_1152 {w : am_Wd} {l0 : Nat} {l1 : Nat} {l2 : Nat} {l3 : Nat} {l4 : Int32} {s0 : Int32} {s1 : Int32} {s2 : Nat} : am_run 269 1152 [some (.ref l0), some (.ref l1), some (.ref l2), some (.ref l3), some (.int l4), none, none, none] [.int s0, .int s1, .ref s2] w = (am_ri 0 w l0 (l4 + (nI 3))).bind fun v => am_run 269 1158 [some (.ref l0), some (.ref l1), some (.ref l2), some (.ref l3), some (.int l4), none, none, none] (.int v :: [.int s0, .int s1, .ref s2]) w := by
  refine (bu (ls'' := [some (.ref l0), some (.ref l1), some (.ref l2), some (.ref l3), some (.int l4), none, none, none]) (st' := [.ref l0, .int s0, .int s1, .ref s2]) bf269_1152 bf269_1153 rfl rfl).trans ?_
  refine (bu (ls'' := [some (.ref l0), some (.ref l1), some (.ref l2), some (.ref l3), some (.int l4), none, none, none]) (st' := [.int l4, .ref l0, .int s0, .int s1, .ref s2]) bf269_1153 bf269_1155 rfl rfl).trans ?_
  refine (bu (ls'' := [some (.ref l0), some (.ref l1), some (.ref l2), some (.ref l3), some (.int l4), none, none, none]) (st' := [.int (nI 3), .int l4, .ref l0, .int s0, .int s1, .ref s2]) bf269_1155 bf269_1156 rfl rfl).trans ?_
  refine (bu (ls'' := [some (.ref l0), some (.ref l1), some (.ref l2), some (.ref l3), some (.int l4), none, none, none]) (st' := [.int (l4 + (nI 3)), .ref l0, .int s0, .int s1, .ref s2]) bf269_1156 bf269_1157 rfl rfl).trans ?_
  exact bh bf269_1157 bf269_1158 rfl (fun _ _ => am_ge_rf w) rfl
theorem bk269_1204 {w : am_Wd} {l0 : Nat} {l1 : Nat} {l2 : Nat} {l3 : Nat} {l4 : Int32} {s0 : Int32} {s1 : Int32} {s2 : Nat} : am_run 269 1204 [some (.ref l0), some (.ref l1), some (.ref l2), some (.ref l3), some (.int l4), none, none, none] [.int s0, .int s1, .ref s2] w = (am_x 249 [.ref s2, .int s1, .int s0, .ref l3] w).bind fun r => bct r fun v w' => am_run 269 1208 [some (.ref l0), some (.ref l1), some (.ref l2), some (.ref l3), some (.int l4), none, none, none] (v.toList ++ []) w' := by
  refine (bu (ls'' := [some (.ref l0), some (.ref l1), some (.ref l2), some (.ref l3), some (.int l4), none, none, none]) (st' := [.ref l3, .int s0, .int s1, .ref s2]) bf269_1204 bf269_1205 rfl rfl).trans ?_
  exact bkS bf269_1205 bf269_1208 rfl (by decide +kernel) (Nat.le_of_ble_eq_true rfl) rfl (bhd rfl)
theorem bk269_1242 {w : am_Wd} {l0 : Nat} {l1 : Nat} {l2 : Nat} {l3 : Nat} {l4 : Int32} {s0 : Int32} : am_run 269 1242 [some (.ref l0), some (.ref l1), some (.ref l2), some (.ref l3), some (.int l4), none, none, none] [.int s0] w = (am_ri 0 w l0 (l4 + (nI 1))).bind fun v => am_run 269 1251 [some (.ref l0), some (.ref l1), some (.ref l2), some (.ref l3), some (.int l4), none, none, none] (.int v :: [.ref l2]) w := by
  refine (bu (ls'' := [some (.ref l0), some (.ref l1), some (.ref l2), some (.ref l3), some (.int l4), none, none, none]) (st' := []) bf269_1242 bf269_1244 rfl rfl).trans ?_
  refine (bu (ls'' := [some (.ref l0), some (.ref l1), some (.ref l2), some (.ref l3), some (.int l4), none, none, none]) (st' := [.ref l2]) bf269_1244 bf269_1245 rfl rfl).trans ?_
  refine (bu (ls'' := [some (.ref l0), some (.ref l1), some (.ref l2), some (.ref l3), some (.int l4), none, none, none]) (st' := [.ref l0, .ref l2]) bf269_1245 bf269_1246 rfl rfl).trans ?_
  refine (bu (ls'' := [some (.ref l0), some (.ref l1), some (.ref l2), some (.ref l3), some (.int l4), none, none, none]) (st' := [.int l4, .ref l0, .ref l2]) bf269_1246 bf269_1248 rfl rfl).trans ?_
  refine (bu (ls'' := [some (.ref l0), some (.ref l1), some (.ref l2), some (.ref l3), some (.int l4), none, none, none]) (st' := [.int (nI 1), .int l4, .ref l0, .ref l2]) bf269_1248 bf269_1249 rfl rfl).trans ?_
  refine (bu (ls'' := [some (.ref l0), some (.ref l1), some (.ref l2), some (.ref l3), some (.int l4), none, none, none]) (st' := [.int (l4 + (nI 1)), .ref l0, .ref l2]) bf269_1249 bf269_1250 rfl rfl).trans ?_
  exact bh bf269_1250 bf269_1251 rfl (fun _ _ => am_ge_rf w) rfl
theorem bk269_1272 {w : am_Wd} {l0 : Nat} {l1 : Nat} {l2 : Nat} {l3 : Nat} {l4 : Int32} {s0 : Int32} {s1 : Int32} {s2 : Nat} : am_run 269 1272 [some (.ref l0), some (.ref l1), some (.ref l2), some (.ref l3), some (.int l4), none, none, none] [.int s0, .int s1, .ref s2] w = (am_x 235 [.ref s2, .int s1, .int s0, .ref l3] w).bind fun r => bct r fun v w' => am_run 269 1276 [some (.ref l0), some (.ref l1), some (.ref l2), some (.ref l3), some (.int l4), none, none, none] (v.toList ++ []) w' := by
  refine (bu (ls'' := [some (.ref l0), some (.ref l1), some (.ref l2), some (.ref l3), some (.int l4), none, none, none]) (st' := [.ref l3, .int s0, .int s1, .ref s2]) bf269_1272 bf269_1273 rfl rfl).trans ?_
  exact bkS bf269_1273 bf269_1276 rfl (by decide +kernel) (Nat.le_of_ble_eq_true rfl) rfl (bhd rfl)
theorem bk269_1310 {w : am_Wd} {l0 : Nat} {l1 : Nat} {l2 : Nat} {l3 : Nat} {l4 : Int32} {s0 : Int32} : am_run 269 1310 [some (.ref l0), some (.ref l1), some (.ref l2), some (.ref l3), some (.int l4), none, none, none] [.int s0] w = (am_ri 0 w l0 (l4 + (nI 1))).bind fun v => am_run 269 1319 [some (.ref l0), some (.ref l1), some (.ref l2), some (.ref l3), some (.int l4), none, none, none] (.int v :: [.ref l2]) w := by
  refine (bu (ls'' := [some (.ref l0), some (.ref l1), some (.ref l2), some (.ref l3), some (.int l4), none, none, none]) (st' := []) bf269_1310 bf269_1312 rfl rfl).trans ?_
  refine (bu (ls'' := [some (.ref l0), some (.ref l1), some (.ref l2), some (.ref l3), some (.int l4), none, none, none]) (st' := [.ref l2]) bf269_1312 bf269_1313 rfl rfl).trans ?_
  refine (bu (ls'' := [some (.ref l0), some (.ref l1), some (.ref l2), some (.ref l3), some (.int l4), none, none, none]) (st' := [.ref l0, .ref l2]) bf269_1313 bf269_1314 rfl rfl).trans ?_
  refine (bu (ls'' := [some (.ref l0), some (.ref l1), some (.ref l2), some (.ref l3), some (.int l4), none, none, none]) (st' := [.int l4, .ref l0, .ref l2]) bf269_1314 bf269_1316 rfl rfl).trans ?_
  refine (bu (ls'' := [some (.ref l0), some (.ref l1), some (.ref l2), some (.ref l3), some (.int l4), none, none, none]) (st' := [.int (nI 1), .int l4, .ref l0, .ref l2]) bf269_1316 bf269_1317 rfl rfl).trans ?_
  refine (bu (ls'' := [some (.ref l0), some (.ref l1), some (.ref l2), some (.ref l3), some (.int l4), none, none, none]) (st' := [.int (l4 + (nI 1)), .ref l0, .ref l2]) bf269_1317 bf269_1318 rfl rfl).trans ?_
  exact bh bf269_1318 bf269_1319 rfl (fun _ _ => am_ge_rf w) rfl
theorem bk269_1340 {w : am_Wd} {l0 : Nat} {l1 : Nat} {l2 : Nat} {l3 : Nat} {l4 : Int32} {s0 : Int32} {s1 : Int32} {s2 : Nat} : am_run 269 1340 [some (.ref l0), some (.ref l1), some (.ref l2), some (.ref l3), some (.int l4), none, none, none] [.int s0, .int s1, .ref s2] w = (am_x 220 [.ref s2, .int s1, .int s0, .ref l3] w).bind fun r => bct r fun v w' => am_run 269 1344 [some (.ref l0), some (.ref l1), some (.ref l2), some (.ref l3), some (.int l4), none, none, none] (v.toList ++ []) w' := by
  refine (bu (ls'' := [some (.ref l0), some (.ref l1), some (.ref l2), some (.ref l3), some (.int l4), none, none, none]) (st' := [.ref l3, .int s0, .int s1, .ref s2]) bf269_1340 bf269_1341 rfl rfl).trans ?_
  exact bkS bf269_1341 bf269_1344 rfl (by decide +kernel) (Nat.le_of_ble_eq_true rfl) rfl (bhd rfl)
theorem bk269_1380 {w : am_Wd} {l0 : Nat} {l1 : Nat} {l2 : Nat} {l3 : Nat} {l4 : Int32} {s0 : Int32} {s1 : Int32} {s2 : Nat} : am_run 269 1380 [some (.ref l0), some (.ref l1), some (.ref l2), some (.ref l3), some (.int l4), none, none, none] [.int s0, .int s1, .ref s2] w = (am_x 237 [.ref s2, .int s1, .int s0, .ref l3] w).bind fun r => bct r fun v w' => am_run 269 1384 [some (.ref l0), some (.ref l1), some (.ref l2), some (.ref l3), some (.int l4), none, none, none] (v.toList ++ []) w' := by
  refine (bu (ls'' := [some (.ref l0), some (.ref l1), some (.ref l2), some (.ref l3), some (.int l4), none, none, none]) (st' := [.ref l3, .int s0, .int s1, .ref s2]) bf269_1380 bf269_1381 rfl rfl).trans ?_
  exact bkS bf269_1381 bf269_1384 rfl (by decide +kernel) (Nat.le_of_ble_eq_true rfl) rfl (bhd rfl)
theorem bk269_1416 {w : am_Wd} {l0 : Nat} {l1 : Nat} {l2 : Nat} {l3 : Nat} {l4 : Int32} {s0 : Int32} : am_run 269 1416 [some (.ref l0), some (.ref l1), some (.ref l2), some (.ref l3), some (.int l4), none, none, none] [.int s0] w = am_run 269 1433 [some (.ref l0), some (.ref l1), some (.ref l2), some (.ref l3), some (.int l4), none, none, none] [] w := by
  refine (bu (ls'' := [some (.ref l0), some (.ref l1), some (.ref l2), some (.ref l3), some (.int l4), none, none, none]) (st' := []) bf269_1416 bf269_1417 rfl rfl).trans ?_
  refine (bu (ls'' := [some (.ref l0), some (.ref l1), some (.ref l2), some (.ref l3), some (.int l4), none, none, none]) (st' := []) bf269_1417 bf269_1433 rfl rfl).trans ?_
  rfl
theorem bk269_1429 {w : am_Wd} {l0 : Nat} {l1 : Nat} {l2 : Nat} {l3 : Nat} {l4 : Int32} {s0 : Int64} : am_run 269 1429 [some (.ref l0), some (.ref l1), some (.ref l2), some (.ref l3), some (.int l4), none, none, none] [.long s0] w = am_run 269 1433 [some (.ref l0), some (.ref l1), some (.ref l2), some (.ref l3), some (.int l4), none, none, none] [] w := by
  refine (bu (ls'' := [some (.ref l0), some (.ref l1), some (.ref l2), some (.ref l3), some (.int l4), none, none, none]) (st' := []) bf269_1429 bf269_1430 rfl rfl).trans ?_
  refine (bu (ls'' := [some (.ref l0), some (.ref l1), some (.ref l2), some (.ref l3), some (.int l4), none, none, none]) (st' := []) bf269_1430 bf269_1433 rfl rfl).trans ?_
  rfl
theorem bk269_191 {w : am_Wd} {l0 : Nat} {l1 : Nat} {l2 : Nat} {l3 : Nat} {l4 : Int32} {s0 : Int32} {s1 : Int32} {s2 : Int32} {s3 : Nat} : am_run 269 191 [some (.ref l0), some (.ref l1), some (.ref l2), some (.ref l3), some (.int l4), none, none, none] [.int s0, .int s1, .int s2, .ref s3] w = (am_ri 0 w l0 (l4 + (nI 4))).bind fun v => am_run 269 197 [some (.ref l0), some (.ref l1), some (.ref l2), some (.ref l3), some (.int l4), none, none, none] (.int v :: [.int s0, .int s1, .int s2, .ref s3]) w := by
  refine (bu (ls'' := [some (.ref l0), some (.ref l1), some (.ref l2), some (.ref l3), some (.int l4), none, none, none]) (st' := [.ref l0, .int s0, .int s1, .int s2, .ref s3]) bf269_191 bf269_192 rfl rfl).trans ?_
  refine (bu (ls'' := [some (.ref l0), some (.ref l1), some (.ref l2), some (.ref l3), some (.int l4), none, none, none]) (st' := [.int l4, .ref l0, .int s0, .int s1, .int s2, .ref s3]) bf269_192 bf269_194 rfl rfl).trans ?_
  refine (bu (ls'' := [some (.ref l0), some (.ref l1), some (.ref l2), some (.ref l3), some (.int l4), none, none, none]) (st' := [.int (nI 4), .int l4, .ref l0, .int s0, .int s1, .int s2, .ref s3]) bf269_194 bf269_195 rfl rfl).trans ?_
  refine (bu (ls'' := [some (.ref l0), some (.ref l1), some (.ref l2), some (.ref l3), some (.int l4), none, none, none]) (st' := [.int (l4 + (nI 4)), .ref l0, .int s0, .int s1, .int s2, .ref s3]) bf269_195 bf269_196 rfl rfl).trans ?_
  exact bh bf269_196 bf269_197 rfl (fun _ _ => am_ge_rf w) rfl
theorem bk269_256 {w : am_Wd} {l0 : Nat} {l1 : Nat} {l2 : Nat} {l3 : Nat} {l4 : Int32} {s0 : Int32} {s1 : Nat} : am_run 269 256 [some (.ref l0), some (.ref l1), some (.ref l2), some (.ref l3), some (.int l4), none, none, none] [.int s0, .ref s1] w = (am_kf w s1 11).bind fun _ => (am_x 206 [.ref s1, .int s0] w).bind fun r => bct r fun v w' => am_run 269 259 [some (.ref l0), some (.ref l1), some (.ref l2), some (.ref l3), some (.int l4), none, none, none] (v.toList ++ []) w' := by
  exact bkV bf269_256 bf269_259 rfl (by decide +kernel) (Nat.le_of_ble_eq_true rfl) rfl (bhd rfl)
theorem bk269_284 {w : am_Wd} {l0 : Nat} {l1 : Nat} {l2 : Nat} {l3 : Nat} {l4 : Int32} {s0 : Int32} {s1 : Nat} : am_run 269 284 [some (.ref l0), some (.ref l1), some (.ref l2), some (.ref l3), some (.int l4), none, none, none] [.int s0, .ref s1] w = am_run 269 285 [some (.ref l0), some (.ref l1), some (.ref l2), some (.ref l3), some (.int l4), none, none, none] [.int (nI 0), .int s0, .ref s1] w := by
  refine (bu (ls'' := [some (.ref l0), some (.ref l1), some (.ref l2), some (.ref l3), some (.int l4), none, none, none]) (st' := [.int (nI 0), .int s0, .ref s1]) bf269_284 bf269_285 rfl rfl).trans ?_
  rfl
theorem bk269_280 {w : am_Wd} {l0 : Nat} {l1 : Nat} {l2 : Nat} {l3 : Nat} {l4 : Int32} {s0 : Int32} {s1 : Nat} : am_run 269 280 [some (.ref l0), some (.ref l1), some (.ref l2), some (.ref l3), some (.int l4), none, none, none] [.int s0, .ref s1] w = am_run 269 285 [some (.ref l0), some (.ref l1), some (.ref l2), some (.ref l3), some (.int l4), none, none, none] [.int (nI 1), .int s0, .ref s1] w := by
  refine (bu (ls'' := [some (.ref l0), some (.ref l1), some (.ref l2), some (.ref l3), some (.int l4), none, none, none]) (st' := [.int (nI 1), .int s0, .ref s1]) bf269_280 bf269_281 rfl rfl).trans ?_
  refine (bu (ls'' := [some (.ref l0), some (.ref l1), some (.ref l2), some (.ref l3), some (.int l4), none, none, none]) (st' := [.int (nI 1), .int s0, .ref s1]) bf269_281 bf269_285 rfl rfl).trans ?_
  rfl
theorem bk269_367 {w : am_Wd} {l0 : Nat} {l1 : Nat} {l2 : Nat} {l3 : Nat} {l4 : Int32} {s0 : Int32} {s1 : Int32} {s2 : Int32} {s3 : Nat} : am_run 269 367 [some (.ref l0), some (.ref l1), some (.ref l2), some (.ref l3), some (.int l4), none, none, none] [.int s0, .int s1, .int s2, .ref s3] w = (am_ri 0 w l0 (l4 + (nI 4))).bind fun v => am_run 269 373 [some (.ref l0), some (.ref l1), some (.ref l2), some (.ref l3), some (.int l4), none, none, none] (.int v :: [.int s0, .int s1, .int s2, .ref s3]) w := by
  refine (bu (ls'' := [some (.ref l0), some (.ref l1), some (.ref l2), some (.ref l3), some (.int l4), none, none, none]) (st' := [.ref l0, .int s0, .int s1, .int s2, .ref s3]) bf269_367 bf269_368 rfl rfl).trans ?_
  refine (bu (ls'' := [some (.ref l0), some (.ref l1), some (.ref l2), some (.ref l3), some (.int l4), none, none, none]) (st' := [.int l4, .ref l0, .int s0, .int s1, .int s2, .ref s3]) bf269_368 bf269_370 rfl rfl).trans ?_
  refine (bu (ls'' := [some (.ref l0), some (.ref l1), some (.ref l2), some (.ref l3), some (.int l4), none, none, none]) (st' := [.int (nI 4), .int l4, .ref l0, .int s0, .int s1, .int s2, .ref s3]) bf269_370 bf269_371 rfl rfl).trans ?_
  refine (bu (ls'' := [some (.ref l0), some (.ref l1), some (.ref l2), some (.ref l3), some (.int l4), none, none, none]) (st' := [.int (l4 + (nI 4)), .ref l0, .int s0, .int s1, .int s2, .ref s3]) bf269_371 bf269_372 rfl rfl).trans ?_
  exact bh bf269_372 bf269_373 rfl (fun _ _ => am_ge_rf w) rfl
theorem bk269_448 {w : am_Wd} {l0 : Nat} {l1 : Nat} {l2 : Nat} {l3 : Nat} {l4 : Int32} {s0 : Int32} {s1 : Nat} : am_run 269 448 [some (.ref l0), some (.ref l1), some (.ref l2), some (.ref l3), some (.int l4), none, none, none] [.int s0, .ref s1] w = am_run 269 449 [some (.ref l0), some (.ref l1), some (.ref l2), some (.ref l3), some (.int l4), none, none, none] [.int (nI 0), .int s0, .ref s1] w := by
  refine (bu (ls'' := [some (.ref l0), some (.ref l1), some (.ref l2), some (.ref l3), some (.int l4), none, none, none]) (st' := [.int (nI 0), .int s0, .ref s1]) bf269_448 bf269_449 rfl rfl).trans ?_
  rfl
theorem bk269_444 {w : am_Wd} {l0 : Nat} {l1 : Nat} {l2 : Nat} {l3 : Nat} {l4 : Int32} {s0 : Int32} {s1 : Nat} : am_run 269 444 [some (.ref l0), some (.ref l1), some (.ref l2), some (.ref l3), some (.int l4), none, none, none] [.int s0, .ref s1] w = am_run 269 449 [some (.ref l0), some (.ref l1), some (.ref l2), some (.ref l3), some (.int l4), none, none, none] [.int (nI 1), .int s0, .ref s1] w := by
  refine (bu (ls'' := [some (.ref l0), some (.ref l1), some (.ref l2), some (.ref l3), some (.int l4), none, none, none]) (st' := [.int (nI 1), .int s0, .ref s1]) bf269_444 bf269_445 rfl rfl).trans ?_
  refine (bu (ls'' := [some (.ref l0), some (.ref l1), some (.ref l2), some (.ref l3), some (.int l4), none, none, none]) (st' := [.int (nI 1), .int s0, .ref s1]) bf269_445 bf269_449 rfl rfl).trans ?_
  rfl
theorem bk269_504 {w : am_Wd} {l0 : Nat} {l1 : Nat} {l2 : Nat} {l3 : Nat} {l4 : Int32} {s0 : Int32} {s1 : Nat} : am_run 269 504 [some (.ref l0), some (.ref l1), some (.ref l2), some (.ref l3), some (.int l4), none, none, none] [.int s0, .ref s1] w = am_run 269 505 [some (.ref l0), some (.ref l1), some (.ref l2), some (.ref l3), some (.int l4), none, none, none] [.int (nI 0), .int s0, .ref s1] w := by
  refine (bu (ls'' := [some (.ref l0), some (.ref l1), some (.ref l2), some (.ref l3), some (.int l4), none, none, none]) (st' := [.int (nI 0), .int s0, .ref s1]) bf269_504 bf269_505 rfl rfl).trans ?_
  rfl
theorem bk269_500 {w : am_Wd} {l0 : Nat} {l1 : Nat} {l2 : Nat} {l3 : Nat} {l4 : Int32} {s0 : Int32} {s1 : Nat} : am_run 269 500 [some (.ref l0), some (.ref l1), some (.ref l2), some (.ref l3), some (.int l4), none, none, none] [.int s0, .ref s1] w = am_run 269 505 [some (.ref l0), some (.ref l1), some (.ref l2), some (.ref l3), some (.int l4), none, none, none] [.int (nI 1), .int s0, .ref s1] w := by
  refine (bu (ls'' := [some (.ref l0), some (.ref l1), some (.ref l2), some (.ref l3), some (.int l4), none, none, none]) (st' := [.int (nI 1), .int s0, .ref s1]) bf269_500 bf269_501 rfl rfl).trans ?_
  refine (bu (ls'' := [some (.ref l0), some (.ref l1), some (.ref l2), some (.ref l3), some (.int l4), none, none, none]) (st' := [.int (nI 1), .int s0, .ref s1]) bf269_501 bf269_505 rfl rfl).trans ?_
  rfl
theorem bk269_588 {w : am_Wd} {l0 : Nat} {l1 : Nat} {l2 : Nat} {l3 : Nat} {l4 : Int32} {s0 : Int32} {s1 : Nat} : am_run 269 588 [some (.ref l0), some (.ref l1), some (.ref l2), some (.ref l3), some (.int l4), none, none, none] [.int s0, .ref s1] w = am_run 269 589 [some (.ref l0), some (.ref l1), some (.ref l2), some (.ref l3), some (.int l4), none, none, none] [.int (nI 0), .int s0, .ref s1] w := by
  refine (bu (ls'' := [some (.ref l0), some (.ref l1), some (.ref l2), some (.ref l3), some (.int l4), none, none, none]) (st' := [.int (nI 0), .int s0, .ref s1]) bf269_588 bf269_589 rfl rfl).trans ?_
  rfl
theorem bk269_584 {w : am_Wd} {l0 : Nat} {l1 : Nat} {l2 : Nat} {l3 : Nat} {l4 : Int32} {s0 : Int32} {s1 : Nat} : am_run 269 584 [some (.ref l0), some (.ref l1), some (.ref l2), some (.ref l3), some (.int l4), none, none, none] [.int s0, .ref s1] w = am_run 269 589 [some (.ref l0), some (.ref l1), some (.ref l2), some (.ref l3), some (.int l4), none, none, none] [.int (nI 1), .int s0, .ref s1] w := by
  refine (bu (ls'' := [some (.ref l0), some (.ref l1), some (.ref l2), some (.ref l3), some (.int l4), none, none, none]) (st' := [.int (nI 1), .int s0, .ref s1]) bf269_584 bf269_585 rfl rfl).trans ?_
  refine (bu (ls'' := [some (.ref l0), some (.ref l1), some (.ref l2), some (.ref l3), some (.int l4), none, none, none]) (st' := [.int (nI 1), .int s0, .ref s1]) bf269_585 bf269_589 rfl rfl).trans ?_
  rfl
theorem bk269_644 {w : am_Wd} {l0 : Nat} {l1 : Nat} {l2 : Nat} {l3 : Nat} {l4 : Int32} {s0 : Int32} {s1 : Nat} : am_run 269 644 [some (.ref l0), some (.ref l1), some (.ref l2), some (.ref l3), some (.int l4), none, none, none] [.int s0, .ref s1] w = am_run 269 645 [some (.ref l0), some (.ref l1), some (.ref l2), some (.ref l3), some (.int l4), none, none, none] [.int (nI 0), .int s0, .ref s1] w := by
  refine (bu (ls'' := [some (.ref l0), some (.ref l1), some (.ref l2), some (.ref l3), some (.int l4), none, none, none]) (st' := [.int (nI 0), .int s0, .ref s1]) bf269_644 bf269_645 rfl rfl).trans ?_
  rfl
theorem bk269_640 {w : am_Wd} {l0 : Nat} {l1 : Nat} {l2 : Nat} {l3 : Nat} {l4 : Int32} {s0 : Int32} {s1 : Nat} : am_run 269 640 [some (.ref l0), some (.ref l1), some (.ref l2), some (.ref l3), some (.int l4), none, none, none] [.int s0, .ref s1] w = am_run 269 645 [some (.ref l0), some (.ref l1), some (.ref l2), some (.ref l3), some (.int l4), none, none, none] [.int (nI 1), .int s0, .ref s1] w := by
  refine (bu (ls'' := [some (.ref l0), some (.ref l1), some (.ref l2), some (.ref l3), some (.int l4), none, none, none]) (st' := [.int (nI 1), .int s0, .ref s1]) bf269_640 bf269_641 rfl rfl).trans ?_
  refine (bu (ls'' := [some (.ref l0), some (.ref l1), some (.ref l2), some (.ref l3), some (.int l4), none, none, none]) (st' := [.int (nI 1), .int s0, .ref s1]) bf269_641 bf269_645 rfl rfl).trans ?_
  rfl
theorem bk269_697 {w : am_Wd} {l0 : Nat} {l1 : Nat} {l2 : Nat} {l3 : Nat} {l4 : Int32} {s0 : Int32} : am_run 269 697 [some (.ref l0), some (.ref l1), some (.ref l2), some (.ref l3), some (.int l4), none, none, none] [.int s0] w = (am_ri 0 w l0 (l4 + (nI 1))).bind fun v => am_run 269 706 [some (.ref l0), some (.ref l1), some (.ref l2), some (.ref l3), some (.int l4), none, none, none] (.int v :: [.ref l2]) w := by
  refine (bu (ls'' := [some (.ref l0), some (.ref l1), some (.ref l2), some (.ref l3), some (.int l4), none, none, none]) (st' := []) bf269_697 bf269_699 rfl rfl).trans ?_
  refine (bu (ls'' := [some (.ref l0), some (.ref l1), some (.ref l2), some (.ref l3), some (.int l4), none, none, none]) (st' := [.ref l2]) bf269_699 bf269_700 rfl rfl).trans ?_
  refine (bu (ls'' := [some (.ref l0), some (.ref l1), some (.ref l2), some (.ref l3), some (.int l4), none, none, none]) (st' := [.ref l0, .ref l2]) bf269_700 bf269_701 rfl rfl).trans ?_
  refine (bu (ls'' := [some (.ref l0), some (.ref l1), some (.ref l2), some (.ref l3), some (.int l4), none, none, none]) (st' := [.int l4, .ref l0, .ref l2]) bf269_701 bf269_703 rfl rfl).trans ?_
  refine (bu (ls'' := [some (.ref l0), some (.ref l1), some (.ref l2), some (.ref l3), some (.int l4), none, none, none]) (st' := [.int (nI 1), .int l4, .ref l0, .ref l2]) bf269_703 bf269_704 rfl rfl).trans ?_
  refine (bu (ls'' := [some (.ref l0), some (.ref l1), some (.ref l2), some (.ref l3), some (.int l4), none, none, none]) (st' := [.int (l4 + (nI 1)), .ref l0, .ref l2]) bf269_704 bf269_705 rfl rfl).trans ?_
  exact bh bf269_705 bf269_706 rfl (fun _ _ => am_ge_rf w) rfl
theorem bk269_740 {w : am_Wd} {l0 : Nat} {l1 : Nat} {l2 : Nat} {l3 : Nat} {l4 : Int32} {s0 : Int32} {s1 : Nat} : am_run 269 740 [some (.ref l0), some (.ref l1), some (.ref l2), some (.ref l3), some (.int l4), none, none, none] [.int s0, .ref s1] w = (am_kf w s1 11).bind fun _ => (am_x 179 [.ref s1, .int s0] w).bind fun r => bct r fun v w' => am_run 269 743 [some (.ref l0), some (.ref l1), some (.ref l2), some (.ref l3), some (.int l4), none, none, none] (v.toList ++ []) w' := by
  exact bkV bf269_740 bf269_743 rfl (by decide +kernel) (Nat.le_of_ble_eq_true rfl) rfl (bhd rfl)
theorem bk269_765 {w : am_Wd} {l0 : Nat} {l1 : Nat} {l2 : Nat} {l3 : Nat} {l4 : Int32} {s0 : Int32} : am_run 269 765 [some (.ref l0), some (.ref l1), some (.ref l2), some (.ref l3), some (.int l4), none, none, none] [.int s0] w = (am_ri 0 w l0 (l4 + (nI 1))).bind fun v => am_run 269 774 [some (.ref l0), some (.ref l1), some (.ref l2), some (.ref l3), some (.int l4), none, none, none] (.int v :: [.ref l2]) w := by
  refine (bu (ls'' := [some (.ref l0), some (.ref l1), some (.ref l2), some (.ref l3), some (.int l4), none, none, none]) (st' := []) bf269_765 bf269_767 rfl rfl).trans ?_
  refine (bu (ls'' := [some (.ref l0), some (.ref l1), some (.ref l2), some (.ref l3), some (.int l4), none, none, none]) (st' := [.ref l2]) bf269_767 bf269_768 rfl rfl).trans ?_
  refine (bu (ls'' := [some (.ref l0), some (.ref l1), some (.ref l2), some (.ref l3), some (.int l4), none, none, none]) (st' := [.ref l0, .ref l2]) bf269_768 bf269_769 rfl rfl).trans ?_
  refine (bu (ls'' := [some (.ref l0), some (.ref l1), some (.ref l2), some (.ref l3), some (.int l4), none, none, none]) (st' := [.int l4, .ref l0, .ref l2]) bf269_769 bf269_771 rfl rfl).trans ?_
  refine (bu (ls'' := [some (.ref l0), some (.ref l1), some (.ref l2), some (.ref l3), some (.int l4), none, none, none]) (st' := [.int (nI 1), .int l4, .ref l0, .ref l2]) bf269_771 bf269_772 rfl rfl).trans ?_
  refine (bu (ls'' := [some (.ref l0), some (.ref l1), some (.ref l2), some (.ref l3), some (.int l4), none, none, none]) (st' := [.int (l4 + (nI 1)), .ref l0, .ref l2]) bf269_772 bf269_773 rfl rfl).trans ?_
  exact bh bf269_773 bf269_774 rfl (fun _ _ => am_ge_rf w) rfl
theorem bk269_808 {w : am_Wd} {l0 : Nat} {l1 : Nat} {l2 : Nat} {l3 : Nat} {l4 : Int32} {s0 : Int32} {s1 : Nat} : am_run 269 808 [some (.ref l0), some (.ref l1), some (.ref l2), some (.ref l3), some (.int l4), none, none, none] [.int s0, .ref s1] w = (am_kf w s1 11).bind fun _ => (am_x 145 [.ref s1, .int s0] w).bind fun r => bct r fun v w' => am_run 269 811 [some (.ref l0), some (.ref l1), some (.ref l2), some (.ref l3), some (.int l4), none, none, none] (v.toList ++ []) w' := by
  exact bkV bf269_808 bf269_811 rfl (by decide +kernel) (Nat.le_of_ble_eq_true rfl) rfl (bhd rfl)
theorem bk269_848 {w : am_Wd} {l0 : Nat} {l1 : Nat} {l2 : Nat} {l3 : Nat} {l4 : Int32} {s0 : Int32} {s1 : Int32} {s2 : Int32} {s3 : Nat} : am_run 269 848 [some (.ref l0), some (.ref l1), some (.ref l2), some (.ref l3), some (.int l4), none, none, none] [.int s0, .int s1, .int s2, .ref s3] w = (am_x 219 [.ref s3, .int s2, .int s1, .int s0, .ref l3] w).bind fun r => bct r fun v w' => am_run 269 852 [some (.ref l0), some (.ref l1), some (.ref l2), some (.ref l3), some (.int l4), none, none, none] (v.toList ++ []) w' := by
  refine (bu (ls'' := [some (.ref l0), some (.ref l1), some (.ref l2), some (.ref l3), some (.int l4), none, none, none]) (st' := [.ref l3, .int s0, .int s1, .int s2, .ref s3]) bf269_848 bf269_849 rfl rfl).trans ?_
  exact bkS bf269_849 bf269_852 rfl (by decide +kernel) (Nat.le_of_ble_eq_true rfl) rfl (bhd rfl)
theorem bk269_898 {w : am_Wd} {l0 : Nat} {l1 : Nat} {l2 : Nat} {l3 : Nat} {l4 : Int32} {s0 : Int32} : am_run 269 898 [some (.ref l0), some (.ref l1), some (.ref l2), some (.ref l3), some (.int l4), none, none, none] [.int s0] w = (am_ri 0 w l0 (l4 + (nI 1))).bind fun v => am_run 269 907 [some (.ref l0), some (.ref l1), some (.ref l2), some (.ref l3), some (.int l4), none, none, none] (.int v :: [.ref l2]) w := by
  refine (bu (ls'' := [some (.ref l0), some (.ref l1), some (.ref l2), some (.ref l3), some (.int l4), none, none, none]) (st' := []) bf269_898 bf269_900 rfl rfl).trans ?_
  refine (bu (ls'' := [some (.ref l0), some (.ref l1), some (.ref l2), some (.ref l3), some (.int l4), none, none, none]) (st' := [.ref l2]) bf269_900 bf269_901 rfl rfl).trans ?_
  refine (bu (ls'' := [some (.ref l0), some (.ref l1), some (.ref l2), some (.ref l3), some (.int l4), none, none, none]) (st' := [.ref l0, .ref l2]) bf269_901 bf269_902 rfl rfl).trans ?_
  refine (bu (ls'' := [some (.ref l0), some (.ref l1), some (.ref l2), some (.ref l3), some (.int l4), none, none, none]) (st' := [.int l4, .ref l0, .ref l2]) bf269_902 bf269_904 rfl rfl).trans ?_
  refine (bu (ls'' := [some (.ref l0), some (.ref l1), some (.ref l2), some (.ref l3), some (.int l4), none, none, none]) (st' := [.int (nI 1), .int l4, .ref l0, .ref l2]) bf269_904 bf269_905 rfl rfl).trans ?_
  refine (bu (ls'' := [some (.ref l0), some (.ref l1), some (.ref l2), some (.ref l3), some (.int l4), none, none, none]) (st' := [.int (l4 + (nI 1)), .ref l0, .ref l2]) bf269_905 bf269_906 rfl rfl).trans ?_
  exact bh bf269_906 bf269_907 rfl (fun _ _ => am_ge_rf w) rfl
theorem bk269_941 {w : am_Wd} {l0 : Nat} {l1 : Nat} {l2 : Nat} {l3 : Nat} {l4 : Int32} {s0 : Int32} {s1 : Nat} : am_run 269 941 [some (.ref l0), some (.ref l1), some (.ref l2), some (.ref l3), some (.int l4), none, none, none] [.int s0, .ref s1] w = (am_kf w s1 11).bind fun _ => (am_x 227 [.ref s1, .int s0] w).bind fun r => bct r fun v w' => am_run 269 944 [some (.ref l0), some (.ref l1), some (.ref l2), some (.ref l3), some (.int l4), none, none, none] (v.toList ++ []) w' := by
  exact bkV bf269_941 bf269_944 rfl (by decide +kernel) (Nat.le_of_ble_eq_true rfl) rfl (bhd rfl)
theorem bk269_969 {w : am_Wd} {l0 : Nat} {l1 : Nat} {l2 : Nat} {l3 : Nat} {l4 : Int32} {l5 : Int32} {s0 : Int32} {s1 : Nat} : am_run 269 969 [some (.ref l0), some (.ref l1), some (.ref l2), some (.ref l3), some (.int l4), some (.int l5), none, none] [.int s0, .ref s1] w = (am_kf w s1 11).bind fun _ => (am_x 246 [.ref s1, .int s0] w).bind fun r => bct r fun v w' => am_run 269 972 [some (.ref l0), some (.ref l1), some (.ref l2), some (.ref l3), some (.int l4), some (.int l5), none, none] (v.toList ++ []) w' := by
  exact bkV bf269_969 bf269_972 rfl (by decide +kernel) (Nat.le_of_ble_eq_true rfl) rfl (bhd rfl)
theorem bk269_1026 {w : am_Wd} {l0 : Nat} {l1 : Nat} {l2 : Nat} {l3 : Nat} {l4 : Int32} {s0 : Int32} {s1 : Int32} {s2 : Int32} {s3 : Nat} : am_run 269 1026 [some (.ref l0), some (.ref l1), some (.ref l2), some (.ref l3), some (.int l4), none, none, none] [.int s0, .int s1, .int s2, .ref s3] w = (am_x 191 [.ref s3, .int s2, .int s1, .int s0, .ref l3] w).bind fun r => bct r fun v w' => am_run 269 1030 [some (.ref l0), some (.ref l1), some (.ref l2), some (.ref l3), some (.int l4), none, none, none] (v.toList ++ []) w' := by
  refine (bu (ls'' := [some (.ref l0), some (.ref l1), some (.ref l2), some (.ref l3), some (.int l4), none, none, none]) (st' := [.ref l3, .int s0, .int s1, .int s2, .ref s3]) bf269_1026 bf269_1027 rfl rfl).trans ?_
  exact bkS bf269_1027 bf269_1030 rfl (by decide +kernel) (Nat.le_of_ble_eq_true rfl) rfl (bhd rfl)
theorem bk269_1076 {w : am_Wd} {l0 : Nat} {l1 : Nat} {l2 : Nat} {l3 : Nat} {l4 : Int32} {s0 : Int32} : am_run 269 1076 [some (.ref l0), some (.ref l1), some (.ref l2), some (.ref l3), some (.int l4), none, none, none] [.int s0] w = (am_ri 0 w l0 (l4 + (nI 1))).bind fun v => am_run 269 1085 [some (.ref l0), some (.ref l1), some (.ref l2), some (.ref l3), some (.int l4), none, none, none] (.int v :: [.ref l2]) w := by
  refine (bu (ls'' := [some (.ref l0), some (.ref l1), some (.ref l2), some (.ref l3), some (.int l4), none, none, none]) (st' := []) bf269_1076 bf269_1078 rfl rfl).trans ?_
  refine (bu (ls'' := [some (.ref l0), some (.ref l1), some (.ref l2), some (.ref l3), some (.int l4), none, none, none]) (st' := [.ref l2]) bf269_1078 bf269_1079 rfl rfl).trans ?_
  refine (bu (ls'' := [some (.ref l0), some (.ref l1), some (.ref l2), some (.ref l3), some (.int l4), none, none, none]) (st' := [.ref l0, .ref l2]) bf269_1079 bf269_1080 rfl rfl).trans ?_
  refine (bu (ls'' := [some (.ref l0), some (.ref l1), some (.ref l2), some (.ref l3), some (.int l4), none, none, none]) (st' := [.int l4, .ref l0, .ref l2]) bf269_1080 bf269_1082 rfl rfl).trans ?_
  refine (bu (ls'' := [some (.ref l0), some (.ref l1), some (.ref l2), some (.ref l3), some (.int l4), none, none, none]) (st' := [.int (nI 1), .int l4, .ref l0, .ref l2]) bf269_1082 bf269_1083 rfl rfl).trans ?_
  refine (bu (ls'' := [some (.ref l0), some (.ref l1), some (.ref l2), some (.ref l3), some (.int l4), none, none, none]) (st' := [.int (l4 + (nI 1)), .ref l0, .ref l2]) bf269_1083 bf269_1084 rfl rfl).trans ?_
  exact bh bf269_1084 bf269_1085 rfl (fun _ _ => am_ge_rf w) rfl
theorem bk269_1116 {w : am_Wd} {l0 : Nat} {l1 : Nat} {l2 : Nat} {l3 : Nat} {l4 : Int32} {s0 : Int32} : am_run 269 1116 [some (.ref l0), some (.ref l1), some (.ref l2), some (.ref l3), some (.int l4), none, none, none] [.int s0] w = (am_ri 0 w l0 (l4 + (nI 1))).bind fun v => am_run 269 1125 [some (.ref l0), some (.ref l1), some (.ref l2), some (.ref l3), some (.int l4), none, none, none] (.int v :: [.ref l2]) w := by
  refine (bu (ls'' := [some (.ref l0), some (.ref l1), some (.ref l2), some (.ref l3), some (.int l4), none, none, none]) (st' := []) bf269_1116 bf269_1118 rfl rfl).trans ?_
  refine (bu (ls'' := [some (.ref l0), some (.ref l1), some (.ref l2), some (.ref l3), some (.int l4), none, none, none]) (st' := [.ref l2]) bf269_1118 bf269_1119 rfl rfl).trans ?_
  refine (bu (ls'' := [some (.ref l0), some (.ref l1), some (.ref l2), some (.ref l3), some (.int l4), none, none, none]) (st' := [.ref l0, .ref l2]) bf269_1119 bf269_1120 rfl rfl).trans ?_
  refine (bu (ls'' := [some (.ref l0), some (.ref l1), some (.ref l2), some (.ref l3), some (.int l4), none, none, none]) (st' := [.int l4, .ref l0, .ref l2]) bf269_1120 bf269_1122 rfl rfl).trans ?_
  refine (bu (ls'' := [some (.ref l0), some (.ref l1), some (.ref l2), some (.ref l3), some (.int l4), none, none, none]) (st' := [.int (nI 1), .int l4, .ref l0, .ref l2]) bf269_1122 bf269_1123 rfl rfl).trans ?_
  refine (bu (ls'' := [some (.ref l0), some (.ref l1), some (.ref l2), some (.ref l3), some (.int l4), none, none, none]) (st' := [.int (l4 + (nI 1)), .ref l0, .ref l2]) bf269_1123 bf269_1124 rfl rfl).trans ?_
  exact bh bf269_1124 bf269_1125 rfl (fun _ _ => am_ge_rf w) rfl
theorem bk269_1158 {w : am_Wd} {l0 : Nat} {l1 : Nat} {l2 : Nat} {l3 : Nat} {l4 : Int32} {s0 : Int32} {s1 : Int32} {s2 : Int32} {s3 : Nat} : am_run 269 1158 [some (.ref l0), some (.ref l1), some (.ref l2), some (.ref l3), some (.int l4), none, none, none] [.int s0, .int s1, .int s2, .ref s3] w = (am_x 194 [.ref s3, .int s2, .int s1, .int s0, .ref l3] w).bind fun r => bct r fun v w' => am_run 269 1162 [some (.ref l0), some (.ref l1), some (.ref l2), some (.ref l3), some (.int l4), none, none, none] (v.toList ++ []) w' := by
  refine (bu (ls'' := [some (.ref l0), some (.ref l1), some (.ref l2), some (.ref l3), some (.int l4), none, none, none]) (st' := [.ref l3, .int s0, .int s1, .int s2, .ref s3]) bf269_1158 bf269_1159 rfl rfl).trans ?_
  exact bkS bf269_1159 bf269_1162 rfl (by decide +kernel) (Nat.le_of_ble_eq_true rfl) rfl (bhd rfl)
theorem bk269_1208 {w : am_Wd} {l0 : Nat} {l1 : Nat} {l2 : Nat} {l3 : Nat} {l4 : Int32} {s0 : Int32} : am_run 269 1208 [some (.ref l0), some (.ref l1), some (.ref l2), some (.ref l3), some (.int l4), none, none, none] [.int s0] w = (am_ri 0 w l0 (l4 + (nI 1))).bind fun v => am_run 269 1217 [some (.ref l0), some (.ref l1), some (.ref l2), some (.ref l3), some (.int l4), none, none, none] (.int v :: [.ref l2]) w := by
  refine (bu (ls'' := [some (.ref l0), some (.ref l1), some (.ref l2), some (.ref l3), some (.int l4), none, none, none]) (st' := []) bf269_1208 bf269_1210 rfl rfl).trans ?_
  refine (bu (ls'' := [some (.ref l0), some (.ref l1), some (.ref l2), some (.ref l3), some (.int l4), none, none, none]) (st' := [.ref l2]) bf269_1210 bf269_1211 rfl rfl).trans ?_
  refine (bu (ls'' := [some (.ref l0), some (.ref l1), some (.ref l2), some (.ref l3), some (.int l4), none, none, none]) (st' := [.ref l0, .ref l2]) bf269_1211 bf269_1212 rfl rfl).trans ?_
  refine (bu (ls'' := [some (.ref l0), some (.ref l1), some (.ref l2), some (.ref l3), some (.int l4), none, none, none]) (st' := [.int l4, .ref l0, .ref l2]) bf269_1212 bf269_1214 rfl rfl).trans ?_
  refine (bu (ls'' := [some (.ref l0), some (.ref l1), some (.ref l2), some (.ref l3), some (.int l4), none, none, none]) (st' := [.int (nI 1), .int l4, .ref l0, .ref l2]) bf269_1214 bf269_1215 rfl rfl).trans ?_
  refine (bu (ls'' := [some (.ref l0), some (.ref l1), some (.ref l2), some (.ref l3), some (.int l4), none, none, none]) (st' := [.int (l4 + (nI 1)), .ref l0, .ref l2]) bf269_1215 bf269_1216 rfl rfl).trans ?_
  exact bh bf269_1216 bf269_1217 rfl (fun _ _ => am_ge_rf w) rfl
theorem bk269_1251 {w : am_Wd} {l0 : Nat} {l1 : Nat} {l2 : Nat} {l3 : Nat} {l4 : Int32} {s0 : Int32} {s1 : Nat} : am_run 269 1251 [some (.ref l0), some (.ref l1), some (.ref l2), some (.ref l3), some (.int l4), none, none, none] [.int s0, .ref s1] w = (am_kf w s1 11).bind fun _ => (am_x 185 [.ref s1, .int s0] w).bind fun r => bct r fun v w' => am_run 269 1254 [some (.ref l0), some (.ref l1), some (.ref l2), some (.ref l3), some (.int l4), none, none, none] (v.toList ++ []) w' := by
  exact bkV bf269_1251 bf269_1254 rfl (by decide +kernel) (Nat.le_of_ble_eq_true rfl) rfl (bhd rfl)
theorem bk269_1276 {w : am_Wd} {l0 : Nat} {l1 : Nat} {l2 : Nat} {l3 : Nat} {l4 : Int32} {s0 : Int32} : am_run 269 1276 [some (.ref l0), some (.ref l1), some (.ref l2), some (.ref l3), some (.int l4), none, none, none] [.int s0] w = (am_ri 0 w l0 (l4 + (nI 1))).bind fun v => am_run 269 1285 [some (.ref l0), some (.ref l1), some (.ref l2), some (.ref l3), some (.int l4), none, none, none] (.int v :: [.ref l2]) w := by
  refine (bu (ls'' := [some (.ref l0), some (.ref l1), some (.ref l2), some (.ref l3), some (.int l4), none, none, none]) (st' := []) bf269_1276 bf269_1278 rfl rfl).trans ?_
  refine (bu (ls'' := [some (.ref l0), some (.ref l1), some (.ref l2), some (.ref l3), some (.int l4), none, none, none]) (st' := [.ref l2]) bf269_1278 bf269_1279 rfl rfl).trans ?_
  refine (bu (ls'' := [some (.ref l0), some (.ref l1), some (.ref l2), some (.ref l3), some (.int l4), none, none, none]) (st' := [.ref l0, .ref l2]) bf269_1279 bf269_1280 rfl rfl).trans ?_
  refine (bu (ls'' := [some (.ref l0), some (.ref l1), some (.ref l2), some (.ref l3), some (.int l4), none, none, none]) (st' := [.int l4, .ref l0, .ref l2]) bf269_1280 bf269_1282 rfl rfl).trans ?_
  refine (bu (ls'' := [some (.ref l0), some (.ref l1), some (.ref l2), some (.ref l3), some (.int l4), none, none, none]) (st' := [.int (nI 1), .int l4, .ref l0, .ref l2]) bf269_1282 bf269_1283 rfl rfl).trans ?_
  refine (bu (ls'' := [some (.ref l0), some (.ref l1), some (.ref l2), some (.ref l3), some (.int l4), none, none, none]) (st' := [.int (l4 + (nI 1)), .ref l0, .ref l2]) bf269_1283 bf269_1284 rfl rfl).trans ?_
  exact bh bf269_1284 bf269_1285 rfl (fun _ _ => am_ge_rf w) rfl
theorem bk269_1319 {w : am_Wd} {l0 : Nat} {l1 : Nat} {l2 : Nat} {l3 : Nat} {l4 : Int32} {s0 : Int32} {s1 : Nat} : am_run 269 1319 [some (.ref l0), some (.ref l1), some (.ref l2), some (.ref l3), some (.int l4), none, none, none] [.int s0, .ref s1] w = (am_kf w s1 11).bind fun _ => (am_x 252 [.ref s1, .int s0] w).bind fun r => bct r fun v w' => am_run 269 1322 [some (.ref l0), some (.ref l1), some (.ref l2), some (.ref l3), some (.int l4), none, none, none] (v.toList ++ []) w' := by
  exact bkV bf269_1319 bf269_1322 rfl (by decide +kernel) (Nat.le_of_ble_eq_true rfl) rfl (bhd rfl)
theorem bk269_1344 {w : am_Wd} {l0 : Nat} {l1 : Nat} {l2 : Nat} {l3 : Nat} {l4 : Int32} {s0 : Int32} : am_run 269 1344 [some (.ref l0), some (.ref l1), some (.ref l2), some (.ref l3), some (.int l4), none, none, none] [.int s0] w = (am_ri 0 w l0 (l4 + (nI 1))).bind fun v => am_run 269 1353 [some (.ref l0), some (.ref l1), some (.ref l2), some (.ref l3), some (.int l4), none, none, none] (.int v :: [.ref l2]) w := by
  refine (bu (ls'' := [some (.ref l0), some (.ref l1), some (.ref l2), some (.ref l3), some (.int l4), none, none, none]) (st' := []) bf269_1344 bf269_1346 rfl rfl).trans ?_
  refine (bu (ls'' := [some (.ref l0), some (.ref l1), some (.ref l2), some (.ref l3), some (.int l4), none, none, none]) (st' := [.ref l2]) bf269_1346 bf269_1347 rfl rfl).trans ?_
  refine (bu (ls'' := [some (.ref l0), some (.ref l1), some (.ref l2), some (.ref l3), some (.int l4), none, none, none]) (st' := [.ref l0, .ref l2]) bf269_1347 bf269_1348 rfl rfl).trans ?_
  refine (bu (ls'' := [some (.ref l0), some (.ref l1), some (.ref l2), some (.ref l3), some (.int l4), none, none, none]) (st' := [.int l4, .ref l0, .ref l2]) bf269_1348 bf269_1350 rfl rfl).trans ?_
  refine (bu (ls'' := [some (.ref l0), some (.ref l1), some (.ref l2), some (.ref l3), some (.int l4), none, none, none]) (st' := [.int (nI 1), .int l4, .ref l0, .ref l2]) bf269_1350 bf269_1351 rfl rfl).trans ?_
  refine (bu (ls'' := [some (.ref l0), some (.ref l1), some (.ref l2), some (.ref l3), some (.int l4), none, none, none]) (st' := [.int (l4 + (nI 1)), .ref l0, .ref l2]) bf269_1351 bf269_1352 rfl rfl).trans ?_
  exact bh bf269_1352 bf269_1353 rfl (fun _ _ => am_ge_rf w) rfl
theorem bk269_1384 {w : am_Wd} {l0 : Nat} {l1 : Nat} {l2 : Nat} {l3 : Nat} {l4 : Int32} {s0 : Int32} : am_run 269 1384 [some (.ref l0), some (.ref l1), some (.ref l2), some (.ref l3), some (.int l4), none, none, none] [.int s0] w = (am_ri 0 w l0 (l4 + (nI 1))).bind fun v => am_run 269 1393 [some (.ref l0), some (.ref l1), some (.ref l2), some (.ref l3), some (.int l4), none, none, none] (.int v :: [.ref l2]) w := by
  refine (bu (ls'' := [some (.ref l0), some (.ref l1), some (.ref l2), some (.ref l3), some (.int l4), none, none, none]) (st' := []) bf269_1384 bf269_1386 rfl rfl).trans ?_
  refine (bu (ls'' := [some (.ref l0), some (.ref l1), some (.ref l2), some (.ref l3), some (.int l4), none, none, none]) (st' := [.ref l2]) bf269_1386 bf269_1387 rfl rfl).trans ?_
  refine (bu (ls'' := [some (.ref l0), some (.ref l1), some (.ref l2), some (.ref l3), some (.int l4), none, none, none]) (st' := [.ref l0, .ref l2]) bf269_1387 bf269_1388 rfl rfl).trans ?_
  refine (bu (ls'' := [some (.ref l0), some (.ref l1), some (.ref l2), some (.ref l3), some (.int l4), none, none, none]) (st' := [.int l4, .ref l0, .ref l2]) bf269_1388 bf269_1390 rfl rfl).trans ?_
  refine (bu (ls'' := [some (.ref l0), some (.ref l1), some (.ref l2), some (.ref l3), some (.int l4), none, none, none]) (st' := [.int (nI 1), .int l4, .ref l0, .ref l2]) bf269_1390 bf269_1391 rfl rfl).trans ?_
  refine (bu (ls'' := [some (.ref l0), some (.ref l1), some (.ref l2), some (.ref l3), some (.int l4), none, none, none]) (st' := [.int (l4 + (nI 1)), .ref l0, .ref l2]) bf269_1391 bf269_1392 rfl rfl).trans ?_
  exact bh bf269_1392 bf269_1393 rfl (fun _ _ => am_ge_rf w) rfl
theorem bk269_197 {w : am_Wd} {l0 : Nat} {l1 : Nat} {l2 : Nat} {l3 : Nat} {l4 : Int32} {s0 : Int32} {s1 : Int32} {s2 : Int32} {s3 : Int32} {s4 : Nat} : am_run 269 197 [some (.ref l0), some (.ref l1), some (.ref l2), some (.ref l3), some (.int l4), none, none, none] [.int s0, .int s1, .int s2, .int s3, .ref s4] w = (am_x 216 [.ref s4, .int s3, .int s2, .int s1, .int s0, .ref l3] w).bind fun r => bct r fun v w' => am_run 269 201 [some (.ref l0), some (.ref l1), some (.ref l2), some (.ref l3), some (.int l4), none, none, none] (v.toList ++ []) w' := by
  refine (bu (ls'' := [some (.ref l0), some (.ref l1), some (.ref l2), some (.ref l3), some (.int l4), none, none, none]) (st' := [.ref l3, .int s0, .int s1, .int s2, .int s3, .ref s4]) bf269_197 bf269_198 rfl rfl).trans ?_
  exact bkS bf269_198 bf269_201 rfl (by decide +kernel) (Nat.le_of_ble_eq_true rfl) rfl (bhd rfl)
theorem bk269_259 {w : am_Wd} {l0 : Nat} {l1 : Nat} {l2 : Nat} {l3 : Nat} {l4 : Int32} {s0 : Int32} : am_run 269 259 [some (.ref l0), some (.ref l1), some (.ref l2), some (.ref l3), some (.int l4), none, none, none] [.int s0] w = am_run 269 1433 [some (.ref l0), some (.ref l1), some (.ref l2), some (.ref l3), some (.int l4), none, none, none] [] w := by
  refine (bu (ls'' := [some (.ref l0), some (.ref l1), some (.ref l2), some (.ref l3), some (.int l4), none, none, none]) (st' := []) bf269_259 bf269_261 rfl rfl).trans ?_
  refine (bu (ls'' := [some (.ref l0), some (.ref l1), some (.ref l2), some (.ref l3), some (.int l4), none, none, none]) (st' := []) bf269_261 bf269_1433 rfl rfl).trans ?_
  rfl
theorem bk269_285 {w : am_Wd} {l0 : Nat} {l1 : Nat} {l2 : Nat} {l3 : Nat} {l4 : Int32} {s0 : Int32} {s1 : Int32} {s2 : Nat} : am_run 269 285 [some (.ref l0), some (.ref l1), some (.ref l2), some (.ref l3), some (.int l4), none, none, none] [.int s0, .int s1, .ref s2] w = (am_ri 0 w l0 (l4 + (nI 3))).bind fun v => am_run 269 291 [some (.ref l0), some (.ref l1), some (.ref l2), some (.ref l3), some (.int l4), none, none, none] (.int v :: [.int s0, .int s1, .ref s2]) w := by
  refine (bu (ls'' := [some (.ref l0), some (.ref l1), some (.ref l2), some (.ref l3), some (.int l4), none, none, none]) (st' := [.ref l0, .int s0, .int s1, .ref s2]) bf269_285 bf269_286 rfl rfl).trans ?_
  refine (bu (ls'' := [some (.ref l0), some (.ref l1), some (.ref l2), some (.ref l3), some (.int l4), none, none, none]) (st' := [.int l4, .ref l0, .int s0, .int s1, .ref s2]) bf269_286 bf269_288 rfl rfl).trans ?_
  refine (bu (ls'' := [some (.ref l0), some (.ref l1), some (.ref l2), some (.ref l3), some (.int l4), none, none, none]) (st' := [.int (nI 3), .int l4, .ref l0, .int s0, .int s1, .ref s2]) bf269_288 bf269_289 rfl rfl).trans ?_
  refine (bu (ls'' := [some (.ref l0), some (.ref l1), some (.ref l2), some (.ref l3), some (.int l4), none, none, none]) (st' := [.int (l4 + (nI 3)), .ref l0, .int s0, .int s1, .ref s2]) bf269_289 bf269_290 rfl rfl).trans ?_
  exact bh bf269_290 bf269_291 rfl (fun _ _ => am_ge_rf w) rfl
theorem bk269_373 {w : am_Wd} {l0 : Nat} {l1 : Nat} {l2 : Nat} {l3 : Nat} {l4 : Int32} {s0 : Int32} {s1 : Int32} {s2 : Int32} {s3 : Int32} {s4 : Nat} : am_run 269 373 [some (.ref l0), some (.ref l1), some (.ref l2), some (.ref l3), some (.int l4), none, none, none] [.int s0, .int s1, .int s2, .int s3, .ref s4] w = if s0 = nI 0 then am_run 269 380 [some (.ref l0), some (.ref l1), some (.ref l2), some (.ref l3), some (.int l4), none, none, none] [.int s1, .int s2, .int s3, .ref s4] w else am_run 269 376 [some (.ref l0), some (.ref l1), some (.ref l2), some (.ref l3), some (.int l4), none, none, none] [.int s1, .int s2, .int s3, .ref s4] w := by
  exact bifc bf269_373 rfl bf269_380 bf269_376 rfl rfl rfl
theorem bk269_449 {w : am_Wd} {l0 : Nat} {l1 : Nat} {l2 : Nat} {l3 : Nat} {l4 : Int32} {s0 : Int32} {s1 : Int32} {s2 : Nat} : am_run 269 449 [some (.ref l0), some (.ref l1), some (.ref l2), some (.ref l3), some (.int l4), none, none, none] [.int s0, .int s1, .ref s2] w = (am_x 253 [.ref s2, .int s1, .int s0, .ref l3] w).bind fun r => bct r fun v w' => am_run 269 453 [some (.ref l0), some (.ref l1), some (.ref l2), some (.ref l3), some (.int l4), none, none, none] (v.toList ++ []) w' := by
  refine (bu (ls'' := [some (.ref l0), some (.ref l1), some (.ref l2), some (.ref l3), some (.int l4), none, none, none]) (st' := [.ref l3, .int s0, .int s1, .ref s2]) bf269_449 bf269_450 rfl rfl).trans ?_
  exact bkS bf269_450 bf269_453 rfl (by decide +kernel) (Nat.le_of_ble_eq_true rfl) rfl (bhd rfl)
theorem bk269_505 {w : am_Wd} {l0 : Nat} {l1 : Nat} {l2 : Nat} {l3 : Nat} {l4 : Int32} {s0 : Int32} {s1 : Int32} {s2 : Nat} : am_run 269 505 [some (.ref l0), some (.ref l1), some (.ref l2), some (.ref l3), some (.int l4), none, none, none] [.int s0, .int s1, .ref s2] w = (am_ri 0 w l0 (l4 + (nI 3))).bind fun v => am_run 269 511 [some (.ref l0), some (.ref l1), some (.ref l2), some (.ref l3), some (.int l4), none, none, none] (.int v :: [.int s0, .int s1, .ref s2]) w := by
  refine (bu (ls'' := [some (.ref l0), some (.ref l1), some (.ref l2), some (.ref l3), some (.int l4), none, none, none]) (st' := [.ref l0, .int s0, .int s1, .ref s2]) bf269_505 bf269_506 rfl rfl).trans ?_
  refine (bu (ls'' := [some (.ref l0), some (.ref l1), some (.ref l2), some (.ref l3), some (.int l4), none, none, none]) (st' := [.int l4, .ref l0, .int s0, .int s1, .ref s2]) bf269_506 bf269_508 rfl rfl).trans ?_
  refine (bu (ls'' := [some (.ref l0), some (.ref l1), some (.ref l2), some (.ref l3), some (.int l4), none, none, none]) (st' := [.int (nI 3), .int l4, .ref l0, .int s0, .int s1, .ref s2]) bf269_508 bf269_509 rfl rfl).trans ?_
  refine (bu (ls'' := [some (.ref l0), some (.ref l1), some (.ref l2), some (.ref l3), some (.int l4), none, none, none]) (st' := [.int (l4 + (nI 3)), .ref l0, .int s0, .int s1, .ref s2]) bf269_509 bf269_510 rfl rfl).trans ?_
  exact bh bf269_510 bf269_511 rfl (fun _ _ => am_ge_rf w) rfl
theorem bk269_589 {w : am_Wd} {l0 : Nat} {l1 : Nat} {l2 : Nat} {l3 : Nat} {l4 : Int32} {s0 : Int32} {s1 : Int32} {s2 : Nat} : am_run 269 589 [some (.ref l0), some (.ref l1), some (.ref l2), some (.ref l3), some (.int l4), none, none, none] [.int s0, .int s1, .ref s2] w = (am_x 255 [.ref s2, .int s1, .int s0, .ref l3] w).bind fun r => bct r fun v w' => am_run 269 593 [some (.ref l0), some (.ref l1), some (.ref l2), some (.ref l3), some (.int l4), none, none, none] (v.toList ++ []) w' := by
  refine (bu (ls'' := [some (.ref l0), some (.ref l1), some (.ref l2), some (.ref l3), some (.int l4), none, none, none]) (st' := [.ref l3, .int s0, .int s1, .ref s2]) bf269_589 bf269_590 rfl rfl).trans ?_
  exact bkS bf269_590 bf269_593 rfl (by decide +kernel) (Nat.le_of_ble_eq_true rfl) rfl (bhd rfl)
theorem bk269_645 {w : am_Wd} {l0 : Nat} {l1 : Nat} {l2 : Nat} {l3 : Nat} {l4 : Int32} {s0 : Int32} {s1 : Int32} {s2 : Nat} : am_run 269 645 [some (.ref l0), some (.ref l1), some (.ref l2), some (.ref l3), some (.int l4), none, none, none] [.int s0, .int s1, .ref s2] w = (am_x 256 [.ref s2, .int s1, .int s0, .ref l3] w).bind fun r => bct r fun v w' => am_run 269 649 [some (.ref l0), some (.ref l1), some (.ref l2), some (.ref l3), some (.int l4), none, none, none] (v.toList ++ []) w' := by
  refine (bu (ls'' := [some (.ref l0), some (.ref l1), some (.ref l2), some (.ref l3), some (.int l4), none, none, none]) (st' := [.ref l3, .int s0, .int s1, .ref s2]) bf269_645 bf269_646 rfl rfl).trans ?_
  exact bkS bf269_646 bf269_649 rfl (by decide +kernel) (Nat.le_of_ble_eq_true rfl) rfl (bhd rfl)
theorem bk269_706 {w : am_Wd} {l0 : Nat} {l1 : Nat} {l2 : Nat} {l3 : Nat} {l4 : Int32} {s0 : Int32} {s1 : Nat} : am_run 269 706 [some (.ref l0), some (.ref l1), some (.ref l2), some (.ref l3), some (.int l4), none, none, none] [.int s0, .ref s1] w = (am_ri 0 w l0 (l4 + (nI 2))).bind fun v => am_run 269 712 [some (.ref l0), some (.ref l1), some (.ref l2), some (.ref l3), some (.int l4), none, none, none] (.int v :: [.int s0, .ref s1]) w := by
  refine (bu (ls'' := [some (.ref l0), some (.ref l1), some (.ref l2), some (.ref l3), some (.int l4), none, none, none]) (st' := [.ref l0, .int s0, .ref s1]) bf269_706 bf269_707 rfl rfl).trans ?_
  refine (bu (ls'' := [some (.ref l0), some (.ref l1), some (.ref l2), some (.ref l3), some (.int l4), none, none, none]) (st' := [.int l4, .ref l0, .int s0, .ref s1]) bf269_707 bf269_709 rfl rfl).trans ?_
  refine (bu (ls'' := [some (.ref l0), some (.ref l1), some (.ref l2), some (.ref l3), some (.int l4), none, none, none]) (st' := [.int (nI 2), .int l4, .ref l0, .int s0, .ref s1]) bf269_709 bf269_710 rfl rfl).trans ?_
  refine (bu (ls'' := [some (.ref l0), some (.ref l1), some (.ref l2), some (.ref l3), some (.int l4), none, none, none]) (st' := [.int (l4 + (nI 2)), .ref l0, .int s0, .ref s1]) bf269_710 bf269_711 rfl rfl).trans ?_
  exact bh bf269_711 bf269_712 rfl (fun _ _ => am_ge_rf w) rfl
theorem bk269_743 {w : am_Wd} {l0 : Nat} {l1 : Nat} {l2 : Nat} {l3 : Nat} {l4 : Int32} {s0 : Int32} : am_run 269 743 [some (.ref l0), some (.ref l1), some (.ref l2), some (.ref l3), some (.int l4), none, none, none] [.int s0] w = am_run 269 1433 [some (.ref l0), some (.ref l1), some (.ref l2), some (.ref l3), some (.int l4), none, none, none] [] w := by
  refine (bu (ls'' := [some (.ref l0), some (.ref l1), some (.ref l2), some (.ref l3), some (.int l4), none, none, none]) (st' := []) bf269_743 bf269_745 rfl rfl).trans ?_
  refine (bu (ls'' := [some (.ref l0), some (.ref l1), some (.ref l2), some (.ref l3), some (.int l4), none, none, none]) (st' := []) bf269_745 bf269_1433 rfl rfl).trans ?_
  rfl
theorem bk269_774 {w : am_Wd} {l0 : Nat} {l1 : Nat} {l2 : Nat} {l3 : Nat} {l4 : Int32} {s0 : Int32} {s1 : Nat} : am_run 269 774 [some (.ref l0), some (.ref l1), some (.ref l2), some (.ref l3), some (.int l4), none, none, none] [.int s0, .ref s1] w = (am_ri 0 w l0 (l4 + (nI 2))).bind fun v => am_run 269 780 [some (.ref l0), some (.ref l1), some (.ref l2), some (.ref l3), some (.int l4), none, none, none] (.int v :: [.int s0, .ref s1]) w := by
  refine (bu (ls'' := [some (.ref l0), some (.ref l1), some (.ref l2), some (.ref l3), some (.int l4), none, none, none]) (st' := [.ref l0, .int s0, .ref s1]) bf269_774 bf269_775 rfl rfl).trans ?_
  refine (bu (ls'' := [some (.ref l0), some (.ref l1), some (.ref l2), some (.ref l3), some (.int l4), none, none, none]) (st' := [.int l4, .ref l0, .int s0, .ref s1]) bf269_775 bf269_777 rfl rfl).trans ?_
  refine (bu (ls'' := [some (.ref l0), some (.ref l1), some (.ref l2), some (.ref l3), some (.int l4), none, none, none]) (st' := [.int (nI 2), .int l4, .ref l0, .int s0, .ref s1]) bf269_777 bf269_778 rfl rfl).trans ?_
  refine (bu (ls'' := [some (.ref l0), some (.ref l1), some (.ref l2), some (.ref l3), some (.int l4), none, none, none]) (st' := [.int (l4 + (nI 2)), .ref l0, .int s0, .ref s1]) bf269_778 bf269_779 rfl rfl).trans ?_
  exact bh bf269_779 bf269_780 rfl (fun _ _ => am_ge_rf w) rfl
theorem bk269_811 {w : am_Wd} {l0 : Nat} {l1 : Nat} {l2 : Nat} {l3 : Nat} {l4 : Int32} {s0 : Int32} : am_run 269 811 [some (.ref l0), some (.ref l1), some (.ref l2), some (.ref l3), some (.int l4), none, none, none] [.int s0] w = am_run 269 1433 [some (.ref l0), some (.ref l1), some (.ref l2), some (.ref l3), some (.int l4), none, none, none] [] w := by
  refine (bu (ls'' := [some (.ref l0), some (.ref l1), some (.ref l2), some (.ref l3), some (.int l4), none, none, none]) (st' := []) bf269_811 bf269_813 rfl rfl).trans ?_
  refine (bu (ls'' := [some (.ref l0), some (.ref l1), some (.ref l2), some (.ref l3), some (.int l4), none, none, none]) (st' := []) bf269_813 bf269_1433 rfl rfl).trans ?_
  rfl
theorem bk269_852 {w : am_Wd} {l0 : Nat} {l1 : Nat} {l2 : Nat} {l3 : Nat} {l4 : Int32} {s0 : Int32} : am_run 269 852 [some (.ref l0), some (.ref l1), some (.ref l2), some (.ref l3), some (.int l4), none, none, none] [.int s0] w = (am_ri 0 w l0 (l4 + (nI 1))).bind fun v => am_run 269 861 [some (.ref l0), some (.ref l1), some (.ref l2), some (.ref l3), some (.int l4), none, none, none] (.int v :: [.ref l2]) w := by
  refine (bu (ls'' := [some (.ref l0), some (.ref l1), some (.ref l2), some (.ref l3), some (.int l4), none, none, none]) (st' := []) bf269_852 bf269_854 rfl rfl).trans ?_
  refine (bu (ls'' := [some (.ref l0), some (.ref l1), some (.ref l2), some (.ref l3), some (.int l4), none, none, none]) (st' := [.ref l2]) bf269_854 bf269_855 rfl rfl).trans ?_
  refine (bu (ls'' := [some (.ref l0), some (.ref l1), some (.ref l2), some (.ref l3), some (.int l4), none, none, none]) (st' := [.ref l0, .ref l2]) bf269_855 bf269_856 rfl rfl).trans ?_
  refine (bu (ls'' := [some (.ref l0), some (.ref l1), some (.ref l2), some (.ref l3), some (.int l4), none, none, none]) (st' := [.int l4, .ref l0, .ref l2]) bf269_856 bf269_858 rfl rfl).trans ?_
  refine (bu (ls'' := [some (.ref l0), some (.ref l1), some (.ref l2), some (.ref l3), some (.int l4), none, none, none]) (st' := [.int (nI 1), .int l4, .ref l0, .ref l2]) bf269_858 bf269_859 rfl rfl).trans ?_
  refine (bu (ls'' := [some (.ref l0), some (.ref l1), some (.ref l2), some (.ref l3), some (.int l4), none, none, none]) (st' := [.int (l4 + (nI 1)), .ref l0, .ref l2]) bf269_859 bf269_860 rfl rfl).trans ?_
  exact bh bf269_860 bf269_861 rfl (fun _ _ => am_ge_rf w) rfl
theorem bk269_907 {w : am_Wd} {l0 : Nat} {l1 : Nat} {l2 : Nat} {l3 : Nat} {l4 : Int32} {s0 : Int32} {s1 : Nat} : am_run 269 907 [some (.ref l0), some (.ref l1), some (.ref l2), some (.ref l3), some (.int l4), none, none, none] [.int s0, .ref s1] w = (am_ri 0 w l0 (l4 + (nI 2))).bind fun v => am_run 269 913 [some (.ref l0), some (.ref l1), some (.ref l2), some (.ref l3), some (.int l4), none, none, none] (.int v :: [.int s0, .ref s1]) w := by
  refine (bu (ls'' := [some (.ref l0), some (.ref l1), some (.ref l2), some (.ref l3), some (.int l4), none, none, none]) (st' := [.ref l0, .int s0, .ref s1]) bf269_907 bf269_908 rfl rfl).trans ?_
  refine (bu (ls'' := [some (.ref l0), some (.ref l1), some (.ref l2), some (.ref l3), some (.int l4), none, none, none]) (st' := [.int l4, .ref l0, .int s0, .ref s1]) bf269_908 bf269_910 rfl rfl).trans ?_
  refine (bu (ls'' := [some (.ref l0), some (.ref l1), some (.ref l2), some (.ref l3), some (.int l4), none, none, none]) (st' := [.int (nI 2), .int l4, .ref l0, .int s0, .ref s1]) bf269_910 bf269_911 rfl rfl).trans ?_
  refine (bu (ls'' := [some (.ref l0), some (.ref l1), some (.ref l2), some (.ref l3), some (.int l4), none, none, none]) (st' := [.int (l4 + (nI 2)), .ref l0, .int s0, .ref s1]) bf269_911 bf269_912 rfl rfl).trans ?_
  exact bh bf269_912 bf269_913 rfl (fun _ _ => am_ge_rf w) rfl
theorem bk269_944 {w : am_Wd} {l0 : Nat} {l1 : Nat} {l2 : Nat} {l3 : Nat} {l4 : Int32} {s0 : Int32} : am_run 269 944 [some (.ref l0), some (.ref l1), some (.ref l2), some (.ref l3), some (.int l4), none, none, none] [.int s0] w = am_run 269 1433 [some (.ref l0), some (.ref l1), some (.ref l2), some (.ref l3), some (.int l4), none, none, none] [] w := by
  refine (bu (ls'' := [some (.ref l0), some (.ref l1), some (.ref l2), some (.ref l3), some (.int l4), none, none, none]) (st' := []) bf269_944 bf269_946 rfl rfl).trans ?_
  refine (bu (ls'' := [some (.ref l0), some (.ref l1), some (.ref l2), some (.ref l3), some (.int l4), none, none, none]) (st' := []) bf269_946 bf269_1433 rfl rfl).trans ?_
  rfl
theorem bk269_972 {w : am_Wd} {l0 : Nat} {l1 : Nat} {l2 : Nat} {l3 : Nat} {l4 : Int32} {l5 : Int32} {s0 : Nat} : am_run 269 972 [some (.ref l0), some (.ref l1), some (.ref l2), some (.ref l3), some (.int l4), some (.int l5), none, none] [.ref s0] w = (am_kf w l2 11).bind fun _ => (am_x 266 [.ref l2] w).bind fun r => bct r fun v w' => am_run 269 978 [some (.ref l0), some (.ref l1), some (.ref l2), some (.ref l3), some (.int l4), some (.int l5), some (.ref s0), none] (v.toList ++ []) w' := by
  refine (bu (ls'' := [some (.ref l0), some (.ref l1), some (.ref l2), some (.ref l3), some (.int l4), some (.int l5), some (.ref s0), none]) (st' := []) bf269_972 bf269_974 rfl rfl).trans ?_
  refine (bu (ls'' := [some (.ref l0), some (.ref l1), some (.ref l2), some (.ref l3), some (.int l4), some (.int l5), some (.ref s0), none]) (st' := [.ref l2]) bf269_974 bf269_975 rfl rfl).trans ?_
  exact bkV bf269_975 bf269_978 rfl (by decide +kernel) (Nat.le_of_ble_eq_true rfl) rfl (bhd rfl)
theorem bk269_1030 {w : am_Wd} {l0 : Nat} {l1 : Nat} {l2 : Nat} {l3 : Nat} {l4 : Int32} {s0 : Int32} : am_run 269 1030 [some (.ref l0), some (.ref l1), some (.ref l2), some (.ref l3), some (.int l4), none, none, none] [.int s0] w = (am_ri 0 w l0 (l4 + (nI 1))).bind fun v => am_run 269 1039 [some (.ref l0), some (.ref l1), some (.ref l2), some (.ref l3), some (.int l4), none, none, none] (.int v :: [.ref l2]) w := by
  refine (bu (ls'' := [some (.ref l0), some (.ref l1), some (.ref l2), some (.ref l3), some (.int l4), none, none, none]) (st' := []) bf269_1030 bf269_1032 rfl rfl).trans ?_
  refine (bu (ls'' := [some (.ref l0), some (.ref l1), some (.ref l2), some (.ref l3), some (.int l4), none, none, none]) (st' := [.ref l2]) bf269_1032 bf269_1033 rfl rfl).trans ?_
  refine (bu (ls'' := [some (.ref l0), some (.ref l1), some (.ref l2), some (.ref l3), some (.int l4), none, none, none]) (st' := [.ref l0, .ref l2]) bf269_1033 bf269_1034 rfl rfl).trans ?_
  refine (bu (ls'' := [some (.ref l0), some (.ref l1), some (.ref l2), some (.ref l3), some (.int l4), none, none, none]) (st' := [.int l4, .ref l0, .ref l2]) bf269_1034 bf269_1036 rfl rfl).trans ?_
  refine (bu (ls'' := [some (.ref l0), some (.ref l1), some (.ref l2), some (.ref l3), some (.int l4), none, none, none]) (st' := [.int (nI 1), .int l4, .ref l0, .ref l2]) bf269_1036 bf269_1037 rfl rfl).trans ?_
  refine (bu (ls'' := [some (.ref l0), some (.ref l1), some (.ref l2), some (.ref l3), some (.int l4), none, none, none]) (st' := [.int (l4 + (nI 1)), .ref l0, .ref l2]) bf269_1037 bf269_1038 rfl rfl).trans ?_
  exact bh bf269_1038 bf269_1039 rfl (fun _ _ => am_ge_rf w) rfl
theorem bk269_1085 {w : am_Wd} {l0 : Nat} {l1 : Nat} {l2 : Nat} {l3 : Nat} {l4 : Int32} {s0 : Int32} {s1 : Nat} : am_run 269 1085 [some (.ref l0), some (.ref l1), some (.ref l2), some (.ref l3), some (.int l4), none, none, none] [.int s0, .ref s1] w = (am_ri 0 w l0 (l4 + (nI 2))).bind fun v => am_run 269 1091 [some (.ref l0), some (.ref l1), some (.ref l2), some (.ref l3), some (.int l4), none, none, none] (.int v :: [.int s0, .ref s1]) w := by
  refine (bu (ls'' := [some (.ref l0), some (.ref l1), some (.ref l2), some (.ref l3), some (.int l4), none, none, none]) (st' := [.ref l0, .int s0, .ref s1]) bf269_1085 bf269_1086 rfl rfl).trans ?_
  refine (bu (ls'' := [some (.ref l0), some (.ref l1), some (.ref l2), some (.ref l3), some (.int l4), none, none, none]) (st' := [.int l4, .ref l0, .int s0, .ref s1]) bf269_1086 bf269_1088 rfl rfl).trans ?_
  refine (bu (ls'' := [some (.ref l0), some (.ref l1), some (.ref l2), some (.ref l3), some (.int l4), none, none, none]) (st' := [.int (nI 2), .int l4, .ref l0, .int s0, .ref s1]) bf269_1088 bf269_1089 rfl rfl).trans ?_
  refine (bu (ls'' := [some (.ref l0), some (.ref l1), some (.ref l2), some (.ref l3), some (.int l4), none, none, none]) (st' := [.int (l4 + (nI 2)), .ref l0, .int s0, .ref s1]) bf269_1089 bf269_1090 rfl rfl).trans ?_
  exact bh bf269_1090 bf269_1091 rfl (fun _ _ => am_ge_rf w) rfl
theorem bk269_1125 {w : am_Wd} {l0 : Nat} {l1 : Nat} {l2 : Nat} {l3 : Nat} {l4 : Int32} {s0 : Int32} {s1 : Nat} : am_run 269 1125 [some (.ref l0), some (.ref l1), some (.ref l2), some (.ref l3), some (.int l4), none, none, none] [.int s0, .ref s1] w = (am_ri 0 w l0 (l4 + (nI 2))).bind fun v => am_run 269 1131 [some (.ref l0), some (.ref l1), some (.ref l2), some (.ref l3), some (.int l4), none, none, none] (.int v :: [.int s0, .ref s1]) w := by
  refine (bu (ls'' := [some (.ref l0), some (.ref l1), some (.ref l2), some (.ref l3), some (.int l4), none, none, none]) (st' := [.ref l0, .int s0, .ref s1]) bf269_1125 bf269_1126 rfl rfl).trans ?_
  refine (bu (ls'' := [some (.ref l0), some (.ref l1), some (.ref l2), some (.ref l3), some (.int l4), none, none, none]) (st' := [.int l4, .ref l0, .int s0, .ref s1]) bf269_1126 bf269_1128 rfl rfl).trans ?_
  refine (bu (ls'' := [some (.ref l0), some (.ref l1), some (.ref l2), some (.ref l3), some (.int l4), none, none, none]) (st' := [.int (nI 2), .int l4, .ref l0, .int s0, .ref s1]) bf269_1128 bf269_1129 rfl rfl).trans ?_
  refine (bu (ls'' := [some (.ref l0), some (.ref l1), some (.ref l2), some (.ref l3), some (.int l4), none, none, none]) (st' := [.int (l4 + (nI 2)), .ref l0, .int s0, .ref s1]) bf269_1129 bf269_1130 rfl rfl).trans ?_
  exact bh bf269_1130 bf269_1131 rfl (fun _ _ => am_ge_rf w) rfl
theorem bk269_1162 {w : am_Wd} {l0 : Nat} {l1 : Nat} {l2 : Nat} {l3 : Nat} {l4 : Int32} {s0 : Int32} : am_run 269 1162 [some (.ref l0), some (.ref l1), some (.ref l2), some (.ref l3), some (.int l4), none, none, none] [.int s0] w = (am_ri 0 w l0 (l4 + (nI 1))).bind fun v => am_run 269 1171 [some (.ref l0), some (.ref l1), some (.ref l2), some (.ref l3), some (.int l4), none, none, none] (.int v :: [.ref l2]) w := by
  refine (bu (ls'' := [some (.ref l0), some (.ref l1), some (.ref l2), some (.ref l3), some (.int l4), none, none, none]) (st' := []) bf269_1162 bf269_1164 rfl rfl).trans ?_
  refine (bu (ls'' := [some (.ref l0), some (.ref l1), some (.ref l2), some (.ref l3), some (.int l4), none, none, none]) (st' := [.ref l2]) bf269_1164 bf269_1165 rfl rfl).trans ?_
  refine (bu (ls'' := [some (.ref l0), some (.ref l1), some (.ref l2), some (.ref l3), some (.int l4), none, none, none]) (st' := [.ref l0, .ref l2]) bf269_1165 bf269_1166 rfl rfl).trans ?_
  refine (bu (ls'' := [some (.ref l0), some (.ref l1), some (.ref l2), some (.ref l3), some (.int l4), none, none, none]) (st' := [.int l4, .ref l0, .ref l2]) bf269_1166 bf269_1168 rfl rfl).trans ?_
  refine (bu (ls'' := [some (.ref l0), some (.ref l1), some (.ref l2), some (.ref l3), some (.int l4), none, none, none]) (st' := [.int (nI 1), .int l4, .ref l0, .ref l2]) bf269_1168 bf269_1169 rfl rfl).trans ?_
  refine (bu (ls'' := [some (.ref l0), some (.ref l1), some (.ref l2), some (.ref l3), some (.int l4), none, none, none]) (st' := [.int (l4 + (nI 1)), .ref l0, .ref l2]) bf269_1169 bf269_1170 rfl rfl).trans ?_
  exact bh bf269_1170 bf269_1171 rfl (fun _ _ => am_ge_rf w) rfl
theorem bk269_1217 {w : am_Wd} {l0 : Nat} {l1 : Nat} {l2 : Nat} {l3 : Nat} {l4 : Int32} {s0 : Int32} {s1 : Nat} : am_run 269 1217 [some (.ref l0), some (.ref l1), some (.ref l2), some (.ref l3), some (.int l4), none, none, none] [.int s0, .ref s1] w = (am_ri 0 w l0 (l4 + (nI 2))).bind fun v => am_run 269 1223 [some (.ref l0), some (.ref l1), some (.ref l2), some (.ref l3), some (.int l4), none, none, none] (.int v :: [.int s0, .ref s1]) w := by
  refine (bu (ls'' := [some (.ref l0), some (.ref l1), some (.ref l2), some (.ref l3), some (.int l4), none, none, none]) (st' := [.ref l0, .int s0, .ref s1]) bf269_1217 bf269_1218 rfl rfl).trans ?_
  refine (bu (ls'' := [some (.ref l0), some (.ref l1), some (.ref l2), some (.ref l3), some (.int l4), none, none, none]) (st' := [.int l4, .ref l0, .int s0, .ref s1]) bf269_1218 bf269_1220 rfl rfl).trans ?_
  refine (bu (ls'' := [some (.ref l0), some (.ref l1), some (.ref l2), some (.ref l3), some (.int l4), none, none, none]) (st' := [.int (nI 2), .int l4, .ref l0, .int s0, .ref s1]) bf269_1220 bf269_1221 rfl rfl).trans ?_
  refine (bu (ls'' := [some (.ref l0), some (.ref l1), some (.ref l2), some (.ref l3), some (.int l4), none, none, none]) (st' := [.int (l4 + (nI 2)), .ref l0, .int s0, .ref s1]) bf269_1221 bf269_1222 rfl rfl).trans ?_
  exact bh bf269_1222 bf269_1223 rfl (fun _ _ => am_ge_rf w) rfl
theorem bk269_1254 {w : am_Wd} {l0 : Nat} {l1 : Nat} {l2 : Nat} {l3 : Nat} {l4 : Int32} {s0 : UInt64} : am_run 269 1254 [some (.ref l0), some (.ref l1), some (.ref l2), some (.ref l3), some (.int l4), none, none, none] [.double s0] w = am_run 269 1433 [some (.ref l0), some (.ref l1), some (.ref l2), some (.ref l3), some (.int l4), none, none, none] [] w := by
  refine (bu (ls'' := [some (.ref l0), some (.ref l1), some (.ref l2), some (.ref l3), some (.int l4), none, none, none]) (st' := []) bf269_1254 bf269_1256 rfl rfl).trans ?_
  refine (bu (ls'' := [some (.ref l0), some (.ref l1), some (.ref l2), some (.ref l3), some (.int l4), none, none, none]) (st' := []) bf269_1256 bf269_1433 rfl rfl).trans ?_
  rfl
theorem bk269_1285 {w : am_Wd} {l0 : Nat} {l1 : Nat} {l2 : Nat} {l3 : Nat} {l4 : Int32} {s0 : Int32} {s1 : Nat} : am_run 269 1285 [some (.ref l0), some (.ref l1), some (.ref l2), some (.ref l3), some (.int l4), none, none, none] [.int s0, .ref s1] w = (am_ri 0 w l0 (l4 + (nI 2))).bind fun v => am_run 269 1291 [some (.ref l0), some (.ref l1), some (.ref l2), some (.ref l3), some (.int l4), none, none, none] (.int v :: [.int s0, .ref s1]) w := by
  refine (bu (ls'' := [some (.ref l0), some (.ref l1), some (.ref l2), some (.ref l3), some (.int l4), none, none, none]) (st' := [.ref l0, .int s0, .ref s1]) bf269_1285 bf269_1286 rfl rfl).trans ?_
  refine (bu (ls'' := [some (.ref l0), some (.ref l1), some (.ref l2), some (.ref l3), some (.int l4), none, none, none]) (st' := [.int l4, .ref l0, .int s0, .ref s1]) bf269_1286 bf269_1288 rfl rfl).trans ?_
  refine (bu (ls'' := [some (.ref l0), some (.ref l1), some (.ref l2), some (.ref l3), some (.int l4), none, none, none]) (st' := [.int (nI 2), .int l4, .ref l0, .int s0, .ref s1]) bf269_1288 bf269_1289 rfl rfl).trans ?_
  refine (bu (ls'' := [some (.ref l0), some (.ref l1), some (.ref l2), some (.ref l3), some (.int l4), none, none, none]) (st' := [.int (l4 + (nI 2)), .ref l0, .int s0, .ref s1]) bf269_1289 bf269_1290 rfl rfl).trans ?_
  exact bh bf269_1290 bf269_1291 rfl (fun _ _ => am_ge_rf w) rfl
theorem bk269_1322 {w : am_Wd} {l0 : Nat} {l1 : Nat} {l2 : Nat} {l3 : Nat} {l4 : Int32} {s0 : Int32} : am_run 269 1322 [some (.ref l0), some (.ref l1), some (.ref l2), some (.ref l3), some (.int l4), none, none, none] [.int s0] w = am_run 269 1433 [some (.ref l0), some (.ref l1), some (.ref l2), some (.ref l3), some (.int l4), none, none, none] [] w := by
  refine (bu (ls'' := [some (.ref l0), some (.ref l1), some (.ref l2), some (.ref l3), some (.int l4), none, none, none]) (st' := []) bf269_1322 bf269_1324 rfl rfl).trans ?_
  refine (bu (ls'' := [some (.ref l0), some (.ref l1), some (.ref l2), some (.ref l3), some (.int l4), none, none, none]) (st' := []) bf269_1324 bf269_1433 rfl rfl).trans ?_
  rfl
theorem bk269_1353 {w : am_Wd} {l0 : Nat} {l1 : Nat} {l2 : Nat} {l3 : Nat} {l4 : Int32} {s0 : Int32} {s1 : Nat} : am_run 269 1353 [some (.ref l0), some (.ref l1), some (.ref l2), some (.ref l3), some (.int l4), none, none, none] [.int s0, .ref s1] w = (am_ri 0 w l0 (l4 + (nI 2))).bind fun v => am_run 269 1359 [some (.ref l0), some (.ref l1), some (.ref l2), some (.ref l3), some (.int l4), none, none, none] (.int v :: [.int s0, .ref s1]) w := by
  refine (bu (ls'' := [some (.ref l0), some (.ref l1), some (.ref l2), some (.ref l3), some (.int l4), none, none, none]) (st' := [.ref l0, .int s0, .ref s1]) bf269_1353 bf269_1354 rfl rfl).trans ?_
  refine (bu (ls'' := [some (.ref l0), some (.ref l1), some (.ref l2), some (.ref l3), some (.int l4), none, none, none]) (st' := [.int l4, .ref l0, .int s0, .ref s1]) bf269_1354 bf269_1356 rfl rfl).trans ?_
  refine (bu (ls'' := [some (.ref l0), some (.ref l1), some (.ref l2), some (.ref l3), some (.int l4), none, none, none]) (st' := [.int (nI 2), .int l4, .ref l0, .int s0, .ref s1]) bf269_1356 bf269_1357 rfl rfl).trans ?_
  refine (bu (ls'' := [some (.ref l0), some (.ref l1), some (.ref l2), some (.ref l3), some (.int l4), none, none, none]) (st' := [.int (l4 + (nI 2)), .ref l0, .int s0, .ref s1]) bf269_1357 bf269_1358 rfl rfl).trans ?_
  exact bh bf269_1358 bf269_1359 rfl (fun _ _ => am_ge_rf w) rfl
theorem bk269_1393 {w : am_Wd} {l0 : Nat} {l1 : Nat} {l2 : Nat} {l3 : Nat} {l4 : Int32} {s0 : Int32} {s1 : Nat} : am_run 269 1393 [some (.ref l0), some (.ref l1), some (.ref l2), some (.ref l3), some (.int l4), none, none, none] [.int s0, .ref s1] w = (am_ri 0 w l0 (l4 + (nI 2))).bind fun v => am_run 269 1399 [some (.ref l0), some (.ref l1), some (.ref l2), some (.ref l3), some (.int l4), none, none, none] (.int v :: [.int s0, .ref s1]) w := by
  refine (bu (ls'' := [some (.ref l0), some (.ref l1), some (.ref l2), some (.ref l3), some (.int l4), none, none, none]) (st' := [.ref l0, .int s0, .ref s1]) bf269_1393 bf269_1394 rfl rfl).trans ?_
  refine (bu (ls'' := [some (.ref l0), some (.ref l1), some (.ref l2), some (.ref l3), some (.int l4), none, none, none]) (st' := [.int l4, .ref l0, .int s0, .ref s1]) bf269_1394 bf269_1396 rfl rfl).trans ?_
  refine (bu (ls'' := [some (.ref l0), some (.ref l1), some (.ref l2), some (.ref l3), some (.int l4), none, none, none]) (st' := [.int (nI 2), .int l4, .ref l0, .int s0, .ref s1]) bf269_1396 bf269_1397 rfl rfl).trans ?_
  refine (bu (ls'' := [some (.ref l0), some (.ref l1), some (.ref l2), some (.ref l3), some (.int l4), none, none, none]) (st' := [.int (l4 + (nI 2)), .ref l0, .int s0, .ref s1]) bf269_1397 bf269_1398 rfl rfl).trans ?_
  exact bh bf269_1398 bf269_1399 rfl (fun _ _ => am_ge_rf w) rfl
theorem bk269_201 {w : am_Wd} {l0 : Nat} {l1 : Nat} {l2 : Nat} {l3 : Nat} {l4 : Int32} {s0 : Int32} : am_run 269 201 [some (.ref l0), some (.ref l1), some (.ref l2), some (.ref l3), some (.int l4), none, none, none] [.int s0] w = (am_ri 0 w l0 (l4 + (nI 1))).bind fun v => am_run 269 210 [some (.ref l0), some (.ref l1), some (.ref l2), some (.ref l3), some (.int l4), none, none, none] (.int v :: [.ref l2]) w := by
  refine (bu (ls'' := [some (.ref l0), some (.ref l1), some (.ref l2), some (.ref l3), some (.int l4), none, none, none]) (st' := []) bf269_201 bf269_203 rfl rfl).trans ?_
  refine (bu (ls'' := [some (.ref l0), some (.ref l1), some (.ref l2), some (.ref l3), some (.int l4), none, none, none]) (st' := [.ref l2]) bf269_203 bf269_204 rfl rfl).trans ?_
  refine (bu (ls'' := [some (.ref l0), some (.ref l1), some (.ref l2), some (.ref l3), some (.int l4), none, none, none]) (st' := [.ref l0, .ref l2]) bf269_204 bf269_205 rfl rfl).trans ?_
  refine (bu (ls'' := [some (.ref l0), some (.ref l1), some (.ref l2), some (.ref l3), some (.int l4), none, none, none]) (st' := [.int l4, .ref l0, .ref l2]) bf269_205 bf269_207 rfl rfl).trans ?_
  refine (bu (ls'' := [some (.ref l0), some (.ref l1), some (.ref l2), some (.ref l3), some (.int l4), none, none, none]) (st' := [.int (nI 1), .int l4, .ref l0, .ref l2]) bf269_207 bf269_208 rfl rfl).trans ?_
  refine (bu (ls'' := [some (.ref l0), some (.ref l1), some (.ref l2), some (.ref l3), some (.int l4), none, none, none]) (st' := [.int (l4 + (nI 1)), .ref l0, .ref l2]) bf269_208 bf269_209 rfl rfl).trans ?_
  exact bh bf269_209 bf269_210 rfl (fun _ _ => am_ge_rf w) rfl
theorem bk269_291 {w : am_Wd} {l0 : Nat} {l1 : Nat} {l2 : Nat} {l3 : Nat} {l4 : Int32} {s0 : Int32} {s1 : Int32} {s2 : Int32} {s3 : Nat} : am_run 269 291 [some (.ref l0), some (.ref l1), some (.ref l2), some (.ref l3), some (.int l4), none, none, none] [.int s0, .int s1, .int s2, .ref s3] w = if s0 = nI 0 then am_run 269 298 [some (.ref l0), some (.ref l1), some (.ref l2), some (.ref l3), some (.int l4), none, none, none] [.int s1, .int s2, .ref s3] w else am_run 269 294 [some (.ref l0), some (.ref l1), some (.ref l2), some (.ref l3), some (.int l4), none, none, none] [.int s1, .int s2, .ref s3] w := by
  exact bifc bf269_291 rfl bf269_298 bf269_294 rfl rfl rfl
theorem bk269_380 {w : am_Wd} {l0 : Nat} {l1 : Nat} {l2 : Nat} {l3 : Nat} {l4 : Int32} {s0 : Int32} {s1 : Int32} {s2 : Int32} {s3 : Nat} : am_run 269 380 [some (.ref l0), some (.ref l1), some (.ref l2), some (.ref l3), some (.int l4), none, none, none] [.int s0, .int s1, .int s2, .ref s3] w = am_run 269 381 [some (.ref l0), some (.ref l1), some (.ref l2), some (.ref l3), some (.int l4), none, none, none] [.int (nI 0), .int s0, .int s1, .int s2, .ref s3] w := by
  refine (bu (ls'' := [some (.ref l0), some (.ref l1), some (.ref l2), some (.ref l3), some (.int l4), none, none, none]) (st' := [.int (nI 0), .int s0, .int s1, .int s2, .ref s3]) bf269_380 bf269_381 rfl rfl).trans ?_
  rfl
theorem bk269_376 {w : am_Wd} {l0 : Nat} {l1 : Nat} {l2 : Nat} {l3 : Nat} {l4 : Int32} {s0 : Int32} {s1 : Int32} {s2 : Int32} {s3 : Nat} : am_run 269 376 [some (.ref l0), some (.ref l1), some (.ref l2), some (.ref l3), some (.int l4), none, none, none] [.int s0, .int s1, .int s2, .ref s3] w = am_run 269 381 [some (.ref l0), some (.ref l1), some (.ref l2), some (.ref l3), some (.int l4), none, none, none] [.int (nI 1), .int s0, .int s1, .int s2, .ref s3] w := by
  refine (bu (ls'' := [some (.ref l0), some (.ref l1), some (.ref l2), some (.ref l3), some (.int l4), none, none, none]) (st' := [.int (nI 1), .int s0, .int s1, .int s2, .ref s3]) bf269_376 bf269_377 rfl rfl).trans ?_
  refine (bu (ls'' := [some (.ref l0), some (.ref l1), some (.ref l2), some (.ref l3), some (.int l4), none, none, none]) (st' := [.int (nI 1), .int s0, .int s1, .int s2, .ref s3]) bf269_377 bf269_381 rfl rfl).trans ?_
  rfl
theorem bk269_453 {w : am_Wd} {l0 : Nat} {l1 : Nat} {l2 : Nat} {l3 : Nat} {l4 : Int32} {s0 : Int32} : am_run 269 453 [some (.ref l0), some (.ref l1), some (.ref l2), some (.ref l3), some (.int l4), none, none, none] [.int s0] w = (am_ri 0 w l0 (l4 + (nI 1))).bind fun v => am_run 269 462 [some (.ref l0), some (.ref l1), some (.ref l2), some (.ref l3), some (.int l4), none, none, none] (.int v :: [.ref l2]) w := by
  refine (bu (ls'' := [some (.ref l0), some (.ref l1), some (.ref l2), some (.ref l3), some (.int l4), none, none, none]) (st' := []) bf269_453 bf269_455 rfl rfl).trans ?_
  refine (bu (ls'' := [some (.ref l0), some (.ref l1), some (.ref l2), some (.ref l3), some (.int l4), none, none, none]) (st' := [.ref l2]) bf269_455 bf269_456 rfl rfl).trans ?_
  refine (bu (ls'' := [some (.ref l0), some (.ref l1), some (.ref l2), some (.ref l3), some (.int l4), none, none, none]) (st' := [.ref l0, .ref l2]) bf269_456 bf269_457 rfl rfl).trans ?_
  refine (bu (ls'' := [some (.ref l0), some (.ref l1), some (.ref l2), some (.ref l3), some (.int l4), none, none, none]) (st' := [.int l4, .ref l0, .ref l2]) bf269_457 bf269_459 rfl rfl).trans ?_
  refine (bu (ls'' := [some (.ref l0), some (.ref l1), some (.ref l2), some (.ref l3), some (.int l4), none, none, none]) (st' := [.int (nI 1), .int l4, .ref l0, .ref l2]) bf269_459 bf269_460 rfl rfl).trans ?_
  refine (bu (ls'' := [some (.ref l0), some (.ref l1), some (.ref l2), some (.ref l3), some (.int l4), none, none, none]) (st' := [.int (l4 + (nI 1)), .ref l0, .ref l2]) bf269_460 bf269_461 rfl rfl).trans ?_
  exact bh bf269_461 bf269_462 rfl (fun _ _ => am_ge_rf w) rfl
theorem bk269_511 {w : am_Wd} {l0 : Nat} {l1 : Nat} {l2 : Nat} {l3 : Nat} {l4 : Int32} {s0 : Int32} {s1 : Int32} {s2 : Int32} {s3 : Nat} : am_run 269 511 [some (.ref l0), some (.ref l1), some (.ref l2), some (.ref l3), some (.int l4), none, none, none] [.int s0, .int s1, .int s2, .ref s3] w = if s0 = nI 0 then am_run 269 518 [some (.ref l0), some (.ref l1), some (.ref l2), some (.ref l3), some (.int l4), none, none, none] [.int s1, .int s2, .ref s3] w else am_run 269 514 [some (.ref l0), some (.ref l1), some (.ref l2), some (.ref l3), some (.int l4), none, none, none] [.int s1, .int s2, .ref s3] w := by
  exact bifc bf269_511 rfl bf269_518 bf269_514 rfl rfl rfl
theorem bk269_593 {w : am_Wd} {l0 : Nat} {l1 : Nat} {l2 : Nat} {l3 : Nat} {l4 : Int32} {s0 : Int32} : am_run 269 593 [some (.ref l0), some (.ref l1), some (.ref l2), some (.ref l3), some (.int l4), none, none, none] [.int s0] w = (am_ri 0 w l0 (l4 + (nI 1))).bind fun v => am_run 269 602 [some (.ref l0), some (.ref l1), some (.ref l2), some (.ref l3), some (.int l4), none, none, none] (.int v :: [.ref l2]) w := by
  refine (bu (ls'' := [some (.ref l0), some (.ref l1), some (.ref l2), some (.ref l3), some (.int l4), none, none, none]) (st' := []) bf269_593 bf269_595 rfl rfl).trans ?_
  refine (bu (ls'' := [some (.ref l0), some (.ref l1), some (.ref l2), some (.ref l3), some (.int l4), none, none, none]) (st' := [.ref l2]) bf269_595 bf269_596 rfl rfl).trans ?_
  refine (bu (ls'' := [some (.ref l0), some (.ref l1), some (.ref l2), some (.ref l3), some (.int l4), none, none, none]) (st' := [.ref l0, .ref l2]) bf269_596 bf269_597 rfl rfl).trans ?_
  refine (bu (ls'' := [some (.ref l0), some (.ref l1), some (.ref l2), some (.ref l3), some (.int l4), none, none, none]) (st' := [.int l4, .ref l0, .ref l2]) bf269_597 bf269_599 rfl rfl).trans ?_
  refine (bu (ls'' := [some (.ref l0), some (.ref l1), some (.ref l2), some (.ref l3), some (.int l4), none, none, none]) (st' := [.int (nI 1), .int l4, .ref l0, .ref l2]) bf269_599 bf269_600 rfl rfl).trans ?_
  refine (bu (ls'' := [some (.ref l0), some (.ref l1), some (.ref l2), some (.ref l3), some (.int l4), none, none, none]) (st' := [.int (l4 + (nI 1)), .ref l0, .ref l2]) bf269_600 bf269_601 rfl rfl).trans ?_
  exact bh bf269_601 bf269_602 rfl (fun _ _ => am_ge_rf w) rfl
theorem bk269_649 {w : am_Wd} {l0 : Nat} {l1 : Nat} {l2 : Nat} {l3 : Nat} {l4 : Int32} {s0 : Int32} : am_run 269 649 [some (.ref l0), some (.ref l1), some (.ref l2), some (.ref l3), some (.int l4), none, none, none] [.int s0] w = (am_ri 0 w l0 (l4 + (nI 1))).bind fun v => am_run 269 658 [some (.ref l0), some (.ref l1), some (.ref l2), some (.ref l3), some (.int l4), none, none, none] (.int v :: [.ref l2]) w := by
  refine (bu (ls'' := [some (.ref l0), some (.ref l1), some (.ref l2), some (.ref l3), some (.int l4), none, none, none]) (st' := []) bf269_649 bf269_651 rfl rfl).trans ?_
  refine (bu (ls'' := [some (.ref l0), some (.ref l1), some (.ref l2), some (.ref l3), some (.int l4), none, none, none]) (st' := [.ref l2]) bf269_651 bf269_652 rfl rfl).trans ?_
  refine (bu (ls'' := [some (.ref l0), some (.ref l1), some (.ref l2), some (.ref l3), some (.int l4), none, none, none]) (st' := [.ref l0, .ref l2]) bf269_652 bf269_653 rfl rfl).trans ?_
  refine (bu (ls'' := [some (.ref l0), some (.ref l1), some (.ref l2), some (.ref l3), some (.int l4), none, none, none]) (st' := [.int l4, .ref l0, .ref l2]) bf269_653 bf269_655 rfl rfl).trans ?_
  refine (bu (ls'' := [some (.ref l0), some (.ref l1), some (.ref l2), some (.ref l3), some (.int l4), none, none, none]) (st' := [.int (nI 1), .int l4, .ref l0, .ref l2]) bf269_655 bf269_656 rfl rfl).trans ?_
  refine (bu (ls'' := [some (.ref l0), some (.ref l1), some (.ref l2), some (.ref l3), some (.int l4), none, none, none]) (st' := [.int (l4 + (nI 1)), .ref l0, .ref l2]) bf269_656 bf269_657 rfl rfl).trans ?_
  exact bh bf269_657 bf269_658 rfl (fun _ _ => am_ge_rf w) rfl
theorem bk269_712 {w : am_Wd} {l0 : Nat} {l1 : Nat} {l2 : Nat} {l3 : Nat} {l4 : Int32} {s0 : Int32} {s1 : Int32} {s2 : Nat} : am_run 269 712 [some (.ref l0), some (.ref l1), some (.ref l2), some (.ref l3), some (.int l4), none, none, none] [.int s0, .int s1, .ref s2] w = (am_kf w s2 11).bind fun _ => (am_x 178 [.ref s2, .int s1, .int s0] w).bind fun r => bct r fun v w' => am_run 269 715 [some (.ref l0), some (.ref l1), some (.ref l2), some (.ref l3), some (.int l4), none, none, none] (v.toList ++ []) w' := by
  exact bkV bf269_712 bf269_715 rfl (by decide +kernel) (Nat.le_of_ble_eq_true rfl) rfl (bhd rfl)
theorem bk269_780 {w : am_Wd} {l0 : Nat} {l1 : Nat} {l2 : Nat} {l3 : Nat} {l4 : Int32} {s0 : Int32} {s1 : Int32} {s2 : Nat} : am_run 269 780 [some (.ref l0), some (.ref l1), some (.ref l2), some (.ref l3), some (.int l4), none, none, none] [.int s0, .int s1, .ref s2] w = (am_kf w s2 11).bind fun _ => (am_x 180 [.ref s2, .int s1, .int s0] w).bind fun r => bct r fun v w' => am_run 269 783 [some (.ref l0), some (.ref l1), some (.ref l2), some (.ref l3), some (.int l4), none, none, none] (v.toList ++ []) w' := by
  exact bkV bf269_780 bf269_783 rfl (by decide +kernel) (Nat.le_of_ble_eq_true rfl) rfl (bhd rfl)
theorem bk269_861 {w : am_Wd} {l0 : Nat} {l1 : Nat} {l2 : Nat} {l3 : Nat} {l4 : Int32} {s0 : Int32} {s1 : Nat} : am_run 269 861 [some (.ref l0), some (.ref l1), some (.ref l2), some (.ref l3), some (.int l4), none, none, none] [.int s0, .ref s1] w = (am_ri 0 w l0 (l4 + (nI 2))).bind fun v => am_run 269 867 [some (.ref l0), some (.ref l1), some (.ref l2), some (.ref l3), some (.int l4), none, none, none] (.int v :: [.int s0, .ref s1]) w := by
  refine (bu (ls'' := [some (.ref l0), some (.ref l1), some (.ref l2), some (.ref l3), some (.int l4), none, none, none]) (st' := [.ref l0, .int s0, .ref s1]) bf269_861 bf269_862 rfl rfl).trans ?_
  refine (bu (ls'' := [some (.ref l0), some (.ref l1), some (.ref l2), some (.ref l3), some (.int l4), none, none, none]) (st' := [.int l4, .ref l0, .int s0, .ref s1]) bf269_862 bf269_864 rfl rfl).trans ?_
  refine (bu (ls'' := [some (.ref l0), some (.ref l1), some (.ref l2), some (.ref l3), some (.int l4), none, none, none]) (st' := [.int (nI 2), .int l4, .ref l0, .int s0, .ref s1]) bf269_864 bf269_865 rfl rfl).trans ?_
  refine (bu (ls'' := [some (.ref l0), some (.ref l1), some (.ref l2), some (.ref l3), some (.int l4), none, none, none]) (st' := [.int (l4 + (nI 2)), .ref l0, .int s0, .ref s1]) bf269_865 bf269_866 rfl rfl).trans ?_
  exact bh bf269_866 bf269_867 rfl (fun _ _ => am_ge_rf w) rfl
theorem bk269_913 {w : am_Wd} {l0 : Nat} {l1 : Nat} {l2 : Nat} {l3 : Nat} {l4 : Int32} {s0 : Int32} {s1 : Int32} {s2 : Nat} : am_run 269 913 [some (.ref l0), some (.ref l1), some (.ref l2), some (.ref l3), some (.int l4), none, none, none] [.int s0, .int s1, .ref s2] w = (am_kf w s2 11).bind fun _ => (am_x 182 [.ref s2, .int s1, .int s0] w).bind fun r => bct r fun v w' => am_run 269 916 [some (.ref l0), some (.ref l1), some (.ref l2), some (.ref l3), some (.int l4), none, none, none] (v.toList ++ []) w' := by
  exact bkV bf269_913 bf269_916 rfl (by decide +kernel) (Nat.le_of_ble_eq_true rfl) rfl (bhd rfl)
theorem bk269_978 {w : am_Wd} {l0 : Nat} {l1 : Nat} {l2 : Nat} {l3 : Nat} {l4 : Int32} {l5 : Int32} {l6 : Nat} {s0 : Int32} : am_run 269 978 [some (.ref l0), some (.ref l1), some (.ref l2), some (.ref l3), some (.int l4), some (.int l5), some (.ref l6), none] [.int s0] w = if s0 = l5 then am_run 269 985 [some (.ref l0), some (.ref l1), some (.ref l2), some (.ref l3), some (.int l4), some (.int l5), some (.ref l6), none] [] w else am_run 269 983 [none, none, none, none, none, none, none, none] [] w := by
  refine (bu (ls'' := [some (.ref l0), some (.ref l1), some (.ref l2), some (.ref l3), some (.int l4), some (.int l5), some (.ref l6), none]) (st' := [.int l5, .int s0]) bf269_978 bf269_980 rfl rfl).trans ?_
  exact bic bf269_980 rfl bf269_985 bf269_983 rfl rfl rfl
theorem bk269_1039 {w : am_Wd} {l0 : Nat} {l1 : Nat} {l2 : Nat} {l3 : Nat} {l4 : Int32} {s0 : Int32} {s1 : Nat} : am_run 269 1039 [some (.ref l0), some (.ref l1), some (.ref l2), some (.ref l3), some (.int l4), none, none, none] [.int s0, .ref s1] w = (am_ri 0 w l0 (l4 + (nI 2))).bind fun v => am_run 269 1045 [some (.ref l0), some (.ref l1), some (.ref l2), some (.ref l3), some (.int l4), none, none, none] (.int v :: [.int s0, .ref s1]) w := by
  refine (bu (ls'' := [some (.ref l0), some (.ref l1), some (.ref l2), some (.ref l3), some (.int l4), none, none, none]) (st' := [.ref l0, .int s0, .ref s1]) bf269_1039 bf269_1040 rfl rfl).trans ?_
  refine (bu (ls'' := [some (.ref l0), some (.ref l1), some (.ref l2), some (.ref l3), some (.int l4), none, none, none]) (st' := [.int l4, .ref l0, .int s0, .ref s1]) bf269_1040 bf269_1042 rfl rfl).trans ?_
  refine (bu (ls'' := [some (.ref l0), some (.ref l1), some (.ref l2), some (.ref l3), some (.int l4), none, none, none]) (st' := [.int (nI 2), .int l4, .ref l0, .int s0, .ref s1]) bf269_1042 bf269_1043 rfl rfl).trans ?_
  refine (bu (ls'' := [some (.ref l0), some (.ref l1), some (.ref l2), some (.ref l3), some (.int l4), none, none, none]) (st' := [.int (l4 + (nI 2)), .ref l0, .int s0, .ref s1]) bf269_1043 bf269_1044 rfl rfl).trans ?_
  exact bh bf269_1044 bf269_1045 rfl (fun _ _ => am_ge_rf w) rfl
theorem bk269_1091 {w : am_Wd} {l0 : Nat} {l1 : Nat} {l2 : Nat} {l3 : Nat} {l4 : Int32} {s0 : Int32} {s1 : Int32} {s2 : Nat} : am_run 269 1091 [some (.ref l0), some (.ref l1), some (.ref l2), some (.ref l3), some (.int l4), none, none, none] [.int s0, .int s1, .ref s2] w = (am_kf w s2 11).bind fun _ => (am_x 183 [.ref s2, .int s1, .int s0] w).bind fun r => bct r fun v w' => am_run 269 1094 [some (.ref l0), some (.ref l1), some (.ref l2), some (.ref l3), some (.int l4), none, none, none] (v.toList ++ []) w' := by
  exact bkV bf269_1091 bf269_1094 rfl (by decide +kernel) (Nat.le_of_ble_eq_true rfl) rfl (bhd rfl)
theorem bk269_1131 {w : am_Wd} {l0 : Nat} {l1 : Nat} {l2 : Nat} {l3 : Nat} {l4 : Int32} {s0 : Int32} {s1 : Int32} {s2 : Nat} : am_run 269 1131 [some (.ref l0), some (.ref l1), some (.ref l2), some (.ref l3), some (.int l4), none, none, none] [.int s0, .int s1, .ref s2] w = (am_kf w s2 11).bind fun _ => (am_x 184 [.ref s2, .int s1, .int s0] w).bind fun r => bct r fun v w' => am_run 269 1134 [some (.ref l0), some (.ref l1), some (.ref l2), some (.ref l3), some (.int l4), none, none, none] (v.toList ++ []) w' := by
  exact bkV bf269_1131 bf269_1134 rfl (by decide +kernel) (Nat.le_of_ble_eq_true rfl) rfl (bhd rfl)
theorem bk269_1171 {w : am_Wd} {l0 : Nat} {l1 : Nat} {l2 : Nat} {l3 : Nat} {l4 : Int32} {s0 : Int32} {s1 : Nat} : am_run 269 1171 [some (.ref l0), some (.ref l1), some (.ref l2), some (.ref l3), some (.int l4), none, none, none] [.int s0, .ref s1] w = (am_ri 0 w l0 (l4 + (nI 2))).bind fun v => am_run 269 1177 [some (.ref l0), some (.ref l1), some (.ref l2), some (.ref l3), some (.int l4), none, none, none] (.int v :: [.int s0, .ref s1]) w := by
  refine (bu (ls'' := [some (.ref l0), some (.ref l1), some (.ref l2), some (.ref l3), some (.int l4), none, none, none]) (st' := [.ref l0, .int s0, .ref s1]) bf269_1171 bf269_1172 rfl rfl).trans ?_
  refine (bu (ls'' := [some (.ref l0), some (.ref l1), some (.ref l2), some (.ref l3), some (.int l4), none, none, none]) (st' := [.int l4, .ref l0, .int s0, .ref s1]) bf269_1172 bf269_1174 rfl rfl).trans ?_
  refine (bu (ls'' := [some (.ref l0), some (.ref l1), some (.ref l2), some (.ref l3), some (.int l4), none, none, none]) (st' := [.int (nI 2), .int l4, .ref l0, .int s0, .ref s1]) bf269_1174 bf269_1175 rfl rfl).trans ?_
  refine (bu (ls'' := [some (.ref l0), some (.ref l1), some (.ref l2), some (.ref l3), some (.int l4), none, none, none]) (st' := [.int (l4 + (nI 2)), .ref l0, .int s0, .ref s1]) bf269_1175 bf269_1176 rfl rfl).trans ?_
  exact bh bf269_1176 bf269_1177 rfl (fun _ _ => am_ge_rf w) rfl
theorem bk269_1223 {w : am_Wd} {l0 : Nat} {l1 : Nat} {l2 : Nat} {l3 : Nat} {l4 : Int32} {s0 : Int32} {s1 : Int32} {s2 : Nat} : am_run 269 1223 [some (.ref l0), some (.ref l1), some (.ref l2), some (.ref l3), some (.int l4), none, none, none] [.int s0, .int s1, .ref s2] w = (am_kf w s2 11).bind fun _ => (am_x 264 [.ref s2, .int s1, .int s0] w).bind fun r => bct r fun v w' => am_run 269 1226 [some (.ref l0), some (.ref l1), some (.ref l2), some (.ref l3), some (.int l4), none, none, none] (v.toList ++ []) w' := by
  exact bkV bf269_1223 bf269_1226 rfl (by decide +kernel) (Nat.le_of_ble_eq_true rfl) rfl (bhd rfl)
theorem bk269_1291 {w : am_Wd} {l0 : Nat} {l1 : Nat} {l2 : Nat} {l3 : Nat} {l4 : Int32} {s0 : Int32} {s1 : Int32} {s2 : Nat} : am_run 269 1291 [some (.ref l0), some (.ref l1), some (.ref l2), some (.ref l3), some (.int l4), none, none, none] [.int s0, .int s1, .ref s2] w = (am_kf w s2 11).bind fun _ => (am_x 247 [.ref s2, .int s1, .int s0] w).bind fun r => bct r fun v w' => am_run 269 1294 [some (.ref l0), some (.ref l1), some (.ref l2), some (.ref l3), some (.int l4), none, none, none] (v.toList ++ []) w' := by
  exact bkV bf269_1291 bf269_1294 rfl (by decide +kernel) (Nat.le_of_ble_eq_true rfl) rfl (bhd rfl)
theorem bk269_1359 {w : am_Wd} {l0 : Nat} {l1 : Nat} {l2 : Nat} {l3 : Nat} {l4 : Int32} {s0 : Int32} {s1 : Int32} {s2 : Nat} : am_run 269 1359 [some (.ref l0), some (.ref l1), some (.ref l2), some (.ref l3), some (.int l4), none, none, none] [.int s0, .int s1, .ref s2] w = (am_kf w s2 11).bind fun _ => (am_x 231 [.ref s2, .int s1, .int s0] w).bind fun r => bct r fun v w' => am_run 269 1362 [some (.ref l0), some (.ref l1), some (.ref l2), some (.ref l3), some (.int l4), none, none, none] (v.toList ++ []) w' := by
  exact bkV bf269_1359 bf269_1362 rfl (by decide +kernel) (Nat.le_of_ble_eq_true rfl) rfl (bhd rfl)
theorem bk269_1399 {w : am_Wd} {l0 : Nat} {l1 : Nat} {l2 : Nat} {l3 : Nat} {l4 : Int32} {s0 : Int32} {s1 : Int32} {s2 : Nat} : am_run 269 1399 [some (.ref l0), some (.ref l1), some (.ref l2), some (.ref l3), some (.int l4), none, none, none] [.int s0, .int s1, .ref s2] w = (am_kf w s2 11).bind fun _ => (am_x 232 [.ref s2, .int s1, .int s0] w).bind fun r => bct r fun v w' => am_run 269 1402 [some (.ref l0), some (.ref l1), some (.ref l2), some (.ref l3), some (.int l4), none, none, none] (v.toList ++ []) w' := by
  exact bkV bf269_1399 bf269_1402 rfl (by decide +kernel) (Nat.le_of_ble_eq_true rfl) rfl (bhd rfl)
theorem bk269_210 {w : am_Wd} {l0 : Nat} {l1 : Nat} {l2 : Nat} {l3 : Nat} {l4 : Int32} {s0 : Int32} {s1 : Nat} : am_run 269 210 [some (.ref l0), some (.ref l1), some (.ref l2), some (.ref l3), some (.int l4), none, none, none] [.int s0, .ref s1] w = (am_ri 0 w l0 (l4 + (nI 2))).bind fun v => am_run 269 216 [some (.ref l0), some (.ref l1), some (.ref l2), some (.ref l3), some (.int l4), none, none, none] (.int v :: [.int s0, .ref s1]) w := by
  refine (bu (ls'' := [some (.ref l0), some (.ref l1), some (.ref l2), some (.ref l3), some (.int l4), none, none, none]) (st' := [.ref l0, .int s0, .ref s1]) bf269_210 bf269_211 rfl rfl).trans ?_
  refine (bu (ls'' := [some (.ref l0), some (.ref l1), some (.ref l2), some (.ref l3), some (.int l4), none, none, none]) (st' := [.int l4, .ref l0, .int s0, .ref s1]) bf269_211 bf269_213 rfl rfl).trans ?_
  refine (bu (ls'' := [some (.ref l0), some (.ref l1), some (.ref l2), some (.ref l3), some (.int l4), none, none, none]) (st' := [.int (nI 2), .int l4, .ref l0, .int s0, .ref s1]) bf269_213 bf269_214 rfl rfl).trans ?_
  refine (bu (ls'' := [some (.ref l0), some (.ref l1), some (.ref l2), some (.ref l3), some (.int l4), none, none, none]) (st' := [.int (l4 + (nI 2)), .ref l0, .int s0, .ref s1]) bf269_214 bf269_215 rfl rfl).trans ?_
  exact bh bf269_215 bf269_216 rfl (fun _ _ => am_ge_rf w) rfl
theorem bk269_298 {w : am_Wd} {l0 : Nat} {l1 : Nat} {l2 : Nat} {l3 : Nat} {l4 : Int32} {s0 : Int32} {s1 : Int32} {s2 : Nat} : am_run 269 298 [some (.ref l0), some (.ref l1), some (.ref l2), some (.ref l3), some (.int l4), none, none, none] [.int s0, .int s1, .ref s2] w = am_run 269 299 [some (.ref l0), some (.ref l1), some (.ref l2), some (.ref l3), some (.int l4), none, none, none] [.int (nI 0), .int s0, .int s1, .ref s2] w := by
  refine (bu (ls'' := [some (.ref l0), some (.ref l1), some (.ref l2), some (.ref l3), some (.int l4), none, none, none]) (st' := [.int (nI 0), .int s0, .int s1, .ref s2]) bf269_298 bf269_299 rfl rfl).trans ?_
  rfl
theorem bk269_294 {w : am_Wd} {l0 : Nat} {l1 : Nat} {l2 : Nat} {l3 : Nat} {l4 : Int32} {s0 : Int32} {s1 : Int32} {s2 : Nat} : am_run 269 294 [some (.ref l0), some (.ref l1), some (.ref l2), some (.ref l3), some (.int l4), none, none, none] [.int s0, .int s1, .ref s2] w = am_run 269 299 [some (.ref l0), some (.ref l1), some (.ref l2), some (.ref l3), some (.int l4), none, none, none] [.int (nI 1), .int s0, .int s1, .ref s2] w := by
  refine (bu (ls'' := [some (.ref l0), some (.ref l1), some (.ref l2), some (.ref l3), some (.int l4), none, none, none]) (st' := [.int (nI 1), .int s0, .int s1, .ref s2]) bf269_294 bf269_295 rfl rfl).trans ?_
  refine (bu (ls'' := [some (.ref l0), some (.ref l1), some (.ref l2), some (.ref l3), some (.int l4), none, none, none]) (st' := [.int (nI 1), .int s0, .int s1, .ref s2]) bf269_295 bf269_299 rfl rfl).trans ?_
  rfl
theorem bk269_381 {w : am_Wd} {l0 : Nat} {l1 : Nat} {l2 : Nat} {l3 : Nat} {l4 : Int32} {s0 : Int32} {s1 : Int32} {s2 : Int32} {s3 : Int32} {s4 : Nat} : am_run 269 381 [some (.ref l0), some (.ref l1), some (.ref l2), some (.ref l3), some (.int l4), none, none, none] [.int s0, .int s1, .int s2, .int s3, .ref s4] w = (am_x 217 [.ref s4, .int s3, .int s2, .int s1, .int s0, .ref l3] w).bind fun r => bct r fun v w' => am_run 269 385 [some (.ref l0), some (.ref l1), some (.ref l2), some (.ref l3), some (.int l4), none, none, none] (v.toList ++ []) w' := by
  refine (bu (ls'' := [some (.ref l0), some (.ref l1), some (.ref l2), some (.ref l3), some (.int l4), none, none, none]) (st' := [.ref l3, .int s0, .int s1, .int s2, .int s3, .ref s4]) bf269_381 bf269_382 rfl rfl).trans ?_
  exact bkS bf269_382 bf269_385 rfl (by decide +kernel) (Nat.le_of_ble_eq_true rfl) rfl (bhd rfl)
theorem bk269_462 {w : am_Wd} {l0 : Nat} {l1 : Nat} {l2 : Nat} {l3 : Nat} {l4 : Int32} {s0 : Int32} {s1 : Nat} : am_run 269 462 [some (.ref l0), some (.ref l1), some (.ref l2), some (.ref l3), some (.int l4), none, none, none] [.int s0, .ref s1] w = (am_ri 0 w l0 (l4 + (nI 2))).bind fun v => am_run 269 468 [some (.ref l0), some (.ref l1), some (.ref l2), some (.ref l3), some (.int l4), none, none, none] (.int v :: [.int s0, .ref s1]) w := by
  refine (bu (ls'' := [some (.ref l0), some (.ref l1), some (.ref l2), some (.ref l3), some (.int l4), none, none, none]) (st' := [.ref l0, .int s0, .ref s1]) bf269_462 bf269_463 rfl rfl).trans ?_
  refine (bu (ls'' := [some (.ref l0), some (.ref l1), some (.ref l2), some (.ref l3), some (.int l4), none, none, none]) (st' := [.int l4, .ref l0, .int s0, .ref s1]) bf269_463 bf269_465 rfl rfl).trans ?_
  refine (bu (ls'' := [some (.ref l0), some (.ref l1), some (.ref l2), some (.ref l3), some (.int l4), none, none, none]) (st' := [.int (nI 2), .int l4, .ref l0, .int s0, .ref s1]) bf269_465 bf269_466 rfl rfl).trans ?_
  refine (bu (ls'' := [some (.ref l0), some (.ref l1), some (.ref l2), some (.ref l3), some (.int l4), none, none, none]) (st' := [.int (l4 + (nI 2)), .ref l0, .int s0, .ref s1]) bf269_466 bf269_467 rfl rfl).trans ?_
  exact bh bf269_467 bf269_468 rfl (fun _ _ => am_ge_rf w) rfl
theorem bk269_518 {w : am_Wd} {l0 : Nat} {l1 : Nat} {l2 : Nat} {l3 : Nat} {l4 : Int32} {s0 : Int32} {s1 : Int32} {s2 : Nat} : am_run 269 518 [some (.ref l0), some (.ref l1), some (.ref l2), some (.ref l3), some (.int l4), none, none, none] [.int s0, .int s1, .ref s2] w = am_run 269 519 [some (.ref l0), some (.ref l1), some (.ref l2), some (.ref l3), some (.int l4), none, none, none] [.int (nI 0), .int s0, .int s1, .ref s2] w := by
  refine (bu (ls'' := [some (.ref l0), some (.ref l1), some (.ref l2), some (.ref l3), some (.int l4), none, none, none]) (st' := [.int (nI 0), .int s0, .int s1, .ref s2]) bf269_518 bf269_519 rfl rfl).trans ?_
  rfl
theorem bk269_514 {w : am_Wd} {l0 : Nat} {l1 : Nat} {l2 : Nat} {l3 : Nat} {l4 : Int32} {s0 : Int32} {s1 : Int32} {s2 : Nat} : am_run 269 514 [some (.ref l0), some (.ref l1), some (.ref l2), some (.ref l3), some (.int l4), none, none, none] [.int s0, .int s1, .ref s2] w = am_run 269 519 [some (.ref l0), some (.ref l1), some (.ref l2), some (.ref l3), some (.int l4), none, none, none] [.int (nI 1), .int s0, .int s1, .ref s2] w := by
  refine (bu (ls'' := [some (.ref l0), some (.ref l1), some (.ref l2), some (.ref l3), some (.int l4), none, none, none]) (st' := [.int (nI 1), .int s0, .int s1, .ref s2]) bf269_514 bf269_515 rfl rfl).trans ?_
  refine (bu (ls'' := [some (.ref l0), some (.ref l1), some (.ref l2), some (.ref l3), some (.int l4), none, none, none]) (st' := [.int (nI 1), .int s0, .int s1, .ref s2]) bf269_515 bf269_519 rfl rfl).trans ?_
  rfl
theorem bk269_602 {w : am_Wd} {l0 : Nat} {l1 : Nat} {l2 : Nat} {l3 : Nat} {l4 : Int32} {s0 : Int32} {s1 : Nat} : am_run 269 602 [some (.ref l0), some (.ref l1), some (.ref l2), some (.ref l3), some (.int l4), none, none, none] [.int s0, .ref s1] w = (am_ri 0 w l0 (l4 + (nI 2))).bind fun v => am_run 269 608 [some (.ref l0), some (.ref l1), some (.ref l2), some (.ref l3), some (.int l4), none, none, none] (.int v :: [.int s0, .ref s1]) w := by
  refine (bu (ls'' := [some (.ref l0), some (.ref l1), some (.ref l2), some (.ref l3), some (.int l4), none, none, none]) (st' := [.ref l0, .int s0, .ref s1]) bf269_602 bf269_603 rfl rfl).trans ?_
  refine (bu (ls'' := [some (.ref l0), some (.ref l1), some (.ref l2), some (.ref l3), some (.int l4), none, none, none]) (st' := [.int l4, .ref l0, .int s0, .ref s1]) bf269_603 bf269_605 rfl rfl).trans ?_
  refine (bu (ls'' := [some (.ref l0), some (.ref l1), some (.ref l2), some (.ref l3), some (.int l4), none, none, none]) (st' := [.int (nI 2), .int l4, .ref l0, .int s0, .ref s1]) bf269_605 bf269_606 rfl rfl).trans ?_
  refine (bu (ls'' := [some (.ref l0), some (.ref l1), some (.ref l2), some (.ref l3), some (.int l4), none, none, none]) (st' := [.int (l4 + (nI 2)), .ref l0, .int s0, .ref s1]) bf269_606 bf269_607 rfl rfl).trans ?_
  exact bh bf269_607 bf269_608 rfl (fun _ _ => am_ge_rf w) rfl
theorem bk269_658 {w : am_Wd} {l0 : Nat} {l1 : Nat} {l2 : Nat} {l3 : Nat} {l4 : Int32} {s0 : Int32} {s1 : Nat} : am_run 269 658 [some (.ref l0), some (.ref l1), some (.ref l2), some (.ref l3), some (.int l4), none, none, none] [.int s0, .ref s1] w = (am_ri 0 w l0 (l4 + (nI 2))).bind fun v => am_run 269 664 [some (.ref l0), some (.ref l1), some (.ref l2), some (.ref l3), some (.int l4), none, none, none] (.int v :: [.int s0, .ref s1]) w := by
  refine (bu (ls'' := [some (.ref l0), some (.ref l1), some (.ref l2), some (.ref l3), some (.int l4), none, none, none]) (st' := [.ref l0, .int s0, .ref s1]) bf269_658 bf269_659 rfl rfl).trans ?_
  refine (bu (ls'' := [some (.ref l0), some (.ref l1), some (.ref l2), some (.ref l3), some (.int l4), none, none, none]) (st' := [.int l4, .ref l0, .int s0, .ref s1]) bf269_659 bf269_661 rfl rfl).trans ?_
  refine (bu (ls'' := [some (.ref l0), some (.ref l1), some (.ref l2), some (.ref l3), some (.int l4), none, none, none]) (st' := [.int (nI 2), .int l4, .ref l0, .int s0, .ref s1]) bf269_661 bf269_662 rfl rfl).trans ?_
  refine (bu (ls'' := [some (.ref l0), some (.ref l1), some (.ref l2), some (.ref l3), some (.int l4), none, none, none]) (st' := [.int (l4 + (nI 2)), .ref l0, .int s0, .ref s1]) bf269_662 bf269_663 rfl rfl).trans ?_
  exact bh bf269_663 bf269_664 rfl (fun _ _ => am_ge_rf w) rfl
theorem bk269_715 {w : am_Wd} {l0 : Nat} {l1 : Nat} {l2 : Nat} {l3 : Nat} {l4 : Int32} {s0 : Int32} : am_run 269 715 [some (.ref l0), some (.ref l1), some (.ref l2), some (.ref l3), some (.int l4), none, none, none] [.int s0] w = am_run 269 1433 [some (.ref l0), some (.ref l1), some (.ref l2), some (.ref l3), some (.int l4), none, none, none] [] w := by
  refine (bu (ls'' := [some (.ref l0), some (.ref l1), some (.ref l2), some (.ref l3), some (.int l4), none, none, none]) (st' := []) bf269_715 bf269_717 rfl rfl).trans ?_
  refine (bu (ls'' := [some (.ref l0), some (.ref l1), some (.ref l2), some (.ref l3), some (.int l4), none, none, none]) (st' := []) bf269_717 bf269_1433 rfl rfl).trans ?_
  rfl
theorem bk269_783 {w : am_Wd} {l0 : Nat} {l1 : Nat} {l2 : Nat} {l3 : Nat} {l4 : Int32} {s0 : Int32} : am_run 269 783 [some (.ref l0), some (.ref l1), some (.ref l2), some (.ref l3), some (.int l4), none, none, none] [.int s0] w = am_run 269 1433 [some (.ref l0), some (.ref l1), some (.ref l2), some (.ref l3), some (.int l4), none, none, none] [] w := by
  refine (bu (ls'' := [some (.ref l0), some (.ref l1), some (.ref l2), some (.ref l3), some (.int l4), none, none, none]) (st' := []) bf269_783 bf269_785 rfl rfl).trans ?_
  refine (bu (ls'' := [some (.ref l0), some (.ref l1), some (.ref l2), some (.ref l3), some (.int l4), none, none, none]) (st' := []) bf269_785 bf269_1433 rfl rfl).trans ?_
  rfl
theorem bk269_867 {w : am_Wd} {l0 : Nat} {l1 : Nat} {l2 : Nat} {l3 : Nat} {l4 : Int32} {s0 : Int32} {s1 : Int32} {s2 : Nat} : am_run 269 867 [some (.ref l0), some (.ref l1), some (.ref l2), some (.ref l3), some (.int l4), none, none, none] [.int s0, .int s1, .ref s2] w = (am_ri 0 w l0 (l4 + (nI 3))).bind fun v => am_run 269 873 [some (.ref l0), some (.ref l1), some (.ref l2), some (.ref l3), some (.int l4), none, none, none] (.int v :: [.int s0, .int s1, .ref s2]) w := by
  refine (bu (ls'' := [some (.ref l0), some (.ref l1), some (.ref l2), some (.ref l3), some (.int l4), none, none, none]) (st' := [.ref l0, .int s0, .int s1, .ref s2]) bf269_867 bf269_868 rfl rfl).trans ?_
  refine (bu (ls'' := [some (.ref l0), some (.ref l1), some (.ref l2), some (.ref l3), some (.int l4), none, none, none]) (st' := [.int l4, .ref l0, .int s0, .int s1, .ref s2]) bf269_868 bf269_870 rfl rfl).trans ?_
  refine (bu (ls'' := [some (.ref l0), some (.ref l1), some (.ref l2), some (.ref l3), some (.int l4), none, none, none]) (st' := [.int (nI 3), .int l4, .ref l0, .int s0, .int s1, .ref s2]) bf269_870 bf269_871 rfl rfl).trans ?_
  refine (bu (ls'' := [some (.ref l0), some (.ref l1), some (.ref l2), some (.ref l3), some (.int l4), none, none, none]) (st' := [.int (l4 + (nI 3)), .ref l0, .int s0, .int s1, .ref s2]) bf269_871 bf269_872 rfl rfl).trans ?_
  exact bh bf269_872 bf269_873 rfl (fun _ _ => am_ge_rf w) rfl
theorem bk269_916 {w : am_Wd} {l0 : Nat} {l1 : Nat} {l2 : Nat} {l3 : Nat} {l4 : Int32} {s0 : Int32} : am_run 269 916 [some (.ref l0), some (.ref l1), some (.ref l2), some (.ref l3), some (.int l4), none, none, none] [.int s0] w = am_run 269 1433 [some (.ref l0), some (.ref l1), some (.ref l2), some (.ref l3), some (.int l4), none, none, none] [] w := by
  refine (bu (ls'' := [some (.ref l0), some (.ref l1), some (.ref l2), some (.ref l3), some (.int l4), none, none, none]) (st' := []) bf269_916 bf269_918 rfl rfl).trans ?_
  refine (bu (ls'' := [some (.ref l0), some (.ref l1), some (.ref l2), some (.ref l3), some (.int l4), none, none, none]) (st' := []) bf269_918 bf269_1433 rfl rfl).trans ?_
  rfl
theorem bk269_985 {w : am_Wd} {l0 : Nat} {l1 : Nat} {l2 : Nat} {l3 : Nat} {l4 : Int32} {l5 : Int32} {l6 : Nat} : am_run 269 985 [some (.ref l0), some (.ref l1), some (.ref l2), some (.ref l3), some (.int l4), some (.int l5), some (.ref l6), none] [] w = if ¬ l5 = nI 0 then am_run 269 1004 [some (.ref l0), some (.ref l1), some (.ref l2), some (.ref l3), some (.int l4), none, none, none] [] w else am_run 269 990 [some (.ref l0), some (.ref l1), some (.ref l2), some (.ref l3), some (.int l4), none, some (.ref l6), none] [] w := by
  refine (bu (ls'' := [some (.ref l0), some (.ref l1), some (.ref l2), some (.ref l3), some (.int l4), none, some (.ref l6), none]) (st' := [.int l5]) bf269_985 bf269_987 rfl rfl).trans ?_
  exact bifc bf269_987 rfl bf269_1004 bf269_990 rfl rfl rfl
theorem bk269_983 {w : am_Wd}  : am_run 269 983 [none, none, none, none, none, none, none, none] [] w = some (.inl (some (.int (nI 0))), w) := by
  refine (bu (ls'' := [none, none, none, none, none, none, none, none]) (st' := [.int (nI 0)]) bf269_983 bf269_984 rfl rfl).trans ?_
  exact am_e2 bf269_984 rfl (am_ge_rf w)
theorem bk269_1045 {w : am_Wd} {l0 : Nat} {l1 : Nat} {l2 : Nat} {l3 : Nat} {l4 : Int32} {s0 : Int32} {s1 : Int32} {s2 : Nat} : am_run 269 1045 [some (.ref l0), some (.ref l1), some (.ref l2), some (.ref l3), some (.int l4), none, none, none] [.int s0, .int s1, .ref s2] w = (am_ri 0 w l0 (l4 + (nI 3))).bind fun v => am_run 269 1051 [some (.ref l0), some (.ref l1), some (.ref l2), some (.ref l3), some (.int l4), none, none, none] (.int v :: [.int s0, .int s1, .ref s2]) w := by
  refine (bu (ls'' := [some (.ref l0), some (.ref l1), some (.ref l2), some (.ref l3), some (.int l4), none, none, none]) (st' := [.ref l0, .int s0, .int s1, .ref s2]) bf269_1045 bf269_1046 rfl rfl).trans ?_
  refine (bu (ls'' := [some (.ref l0), some (.ref l1), some (.ref l2), some (.ref l3), some (.int l4), none, none, none]) (st' := [.int l4, .ref l0, .int s0, .int s1, .ref s2]) bf269_1046 bf269_1048 rfl rfl).trans ?_
  refine (bu (ls'' := [some (.ref l0), some (.ref l1), some (.ref l2), some (.ref l3), some (.int l4), none, none, none]) (st' := [.int (nI 3), .int l4, .ref l0, .int s0, .int s1, .ref s2]) bf269_1048 bf269_1049 rfl rfl).trans ?_
  refine (bu (ls'' := [some (.ref l0), some (.ref l1), some (.ref l2), some (.ref l3), some (.int l4), none, none, none]) (st' := [.int (l4 + (nI 3)), .ref l0, .int s0, .int s1, .ref s2]) bf269_1049 bf269_1050 rfl rfl).trans ?_
  exact bh bf269_1050 bf269_1051 rfl (fun _ _ => am_ge_rf w) rfl
theorem bk269_1094 {w : am_Wd} {l0 : Nat} {l1 : Nat} {l2 : Nat} {l3 : Nat} {l4 : Int32} {s0 : Int32} : am_run 269 1094 [some (.ref l0), some (.ref l1), some (.ref l2), some (.ref l3), some (.int l4), none, none, none] [.int s0] w = am_run 269 1433 [some (.ref l0), some (.ref l1), some (.ref l2), some (.ref l3), some (.int l4), none, none, none] [] w := by
  refine (bu (ls'' := [some (.ref l0), some (.ref l1), some (.ref l2), some (.ref l3), some (.int l4), none, none, none]) (st' := []) bf269_1094 bf269_1096 rfl rfl).trans ?_
  refine (bu (ls'' := [some (.ref l0), some (.ref l1), some (.ref l2), some (.ref l3), some (.int l4), none, none, none]) (st' := []) bf269_1096 bf269_1433 rfl rfl).trans ?_
  rfl
theorem bk269_1134 {w : am_Wd} {l0 : Nat} {l1 : Nat} {l2 : Nat} {l3 : Nat} {l4 : Int32} {s0 : Int64} : am_run 269 1134 [some (.ref l0), some (.ref l1), some (.ref l2), some (.ref l3), some (.int l4), none, none, none] [.long s0] w = am_run 269 1433 [some (.ref l0), some (.ref l1), some (.ref l2), some (.ref l3), some (.int l4), none, none, none] [] w := by
  refine (bu (ls'' := [some (.ref l0), some (.ref l1), some (.ref l2), some (.ref l3), some (.int l4), none, none, none]) (st' := []) bf269_1134 bf269_1136 rfl rfl).trans ?_
  refine (bu (ls'' := [some (.ref l0), some (.ref l1), some (.ref l2), some (.ref l3), some (.int l4), none, none, none]) (st' := []) bf269_1136 bf269_1433 rfl rfl).trans ?_
  rfl
theorem bk269_1177 {w : am_Wd} {l0 : Nat} {l1 : Nat} {l2 : Nat} {l3 : Nat} {l4 : Int32} {s0 : Int32} {s1 : Int32} {s2 : Nat} : am_run 269 1177 [some (.ref l0), some (.ref l1), some (.ref l2), some (.ref l3), some (.int l4), none, none, none] [.int s0, .int s1, .ref s2] w = (am_ri 0 w l0 (l4 + (nI 3))).bind fun v => am_run 269 1183 [some (.ref l0), some (.ref l1), some (.ref l2), some (.ref l3), some (.int l4), none, none, none] (.int v :: [.int s0, .int s1, .ref s2]) w := by
  refine (bu (ls'' := [some (.ref l0), some (.ref l1), some (.ref l2), some (.ref l3), some (.int l4), none, none, none]) (st' := [.ref l0, .int s0, .int s1, .ref s2]) bf269_1177 bf269_1178 rfl rfl).trans ?_
  refine (bu (ls'' := [some (.ref l0), some (.ref l1), some (.ref l2), some (.ref l3), some (.int l4), none, none, none]) (st' := [.int l4, .ref l0, .int s0, .int s1, .ref s2]) bf269_1178 bf269_1180 rfl rfl).trans ?_
  refine (bu (ls'' := [some (.ref l0), some (.ref l1), some (.ref l2), some (.ref l3), some (.int l4), none, none, none]) (st' := [.int (nI 3), .int l4, .ref l0, .int s0, .int s1, .ref s2]) bf269_1180 bf269_1181 rfl rfl).trans ?_
  refine (bu (ls'' := [some (.ref l0), some (.ref l1), some (.ref l2), some (.ref l3), some (.int l4), none, none, none]) (st' := [.int (l4 + (nI 3)), .ref l0, .int s0, .int s1, .ref s2]) bf269_1181 bf269_1182 rfl rfl).trans ?_
  exact bh bf269_1182 bf269_1183 rfl (fun _ _ => am_ge_rf w) rfl
theorem bk269_1226 {w : am_Wd} {l0 : Nat} {l1 : Nat} {l2 : Nat} {l3 : Nat} {l4 : Int32} {s0 : Int32} : am_run 269 1226 [some (.ref l0), some (.ref l1), some (.ref l2), some (.ref l3), some (.int l4), none, none, none] [.int s0] w = am_run 269 1433 [some (.ref l0), some (.ref l1), some (.ref l2), some (.ref l3), some (.int l4), none, none, none] [] w := by
  refine (bu (ls'' := [some (.ref l0), some (.ref l1), some (.ref l2), some (.ref l3), some (.int l4), none, none, none]) (st' := []) bf269_1226 bf269_1228 rfl rfl).trans ?_
  refine (bu (ls'' := [some (.ref l0), some (.ref l1), some (.ref l2), some (.ref l3), some (.int l4), none, none, none]) (st' := []) bf269_1228 bf269_1433 rfl rfl).trans ?_
  rfl
theorem bk269_1294 {w : am_Wd} {l0 : Nat} {l1 : Nat} {l2 : Nat} {l3 : Nat} {l4 : Int32} {s0 : Int32} : am_run 269 1294 [some (.ref l0), some (.ref l1), some (.ref l2), some (.ref l3), some (.int l4), none, none, none] [.int s0] w = am_run 269 1433 [some (.ref l0), some (.ref l1), some (.ref l2), some (.ref l3), some (.int l4), none, none, none] [] w := by
  refine (bu (ls'' := [some (.ref l0), some (.ref l1), some (.ref l2), some (.ref l3), some (.int l4), none, none, none]) (st' := []) bf269_1294 bf269_1296 rfl rfl).trans ?_
  refine (bu (ls'' := [some (.ref l0), some (.ref l1), some (.ref l2), some (.ref l3), some (.int l4), none, none, none]) (st' := []) bf269_1296 bf269_1433 rfl rfl).trans ?_
  rfl
theorem bk269_1362 {w : am_Wd} {l0 : Nat} {l1 : Nat} {l2 : Nat} {l3 : Nat} {l4 : Int32} {s0 : Int32} : am_run 269 1362 [some (.ref l0), some (.ref l1), some (.ref l2), some (.ref l3), some (.int l4), none, none, none] [.int s0] w = am_run 269 1433 [some (.ref l0), some (.ref l1), some (.ref l2), some (.ref l3), some (.int l4), none, none, none] [] w := by
  refine (bu (ls'' := [some (.ref l0), some (.ref l1), some (.ref l2), some (.ref l3), some (.int l4), none, none, none]) (st' := []) bf269_1362 bf269_1364 rfl rfl).trans ?_
  refine (bu (ls'' := [some (.ref l0), some (.ref l1), some (.ref l2), some (.ref l3), some (.int l4), none, none, none]) (st' := []) bf269_1364 bf269_1433 rfl rfl).trans ?_
  rfl
theorem bk269_1402 {w : am_Wd} {l0 : Nat} {l1 : Nat} {l2 : Nat} {l3 : Nat} {l4 : Int32} {s0 : Int32} : am_run 269 1402 [some (.ref l0), some (.ref l1), some (.ref l2), some (.ref l3), some (.int l4), none, none, none] [.int s0] w = am_run 269 1433 [some (.ref l0), some (.ref l1), some (.ref l2), some (.ref l3), some (.int l4), none, none, none] [] w := by
  refine (bu (ls'' := [some (.ref l0), some (.ref l1), some (.ref l2), some (.ref l3), some (.int l4), none, none, none]) (st' := []) bf269_1402 bf269_1404 rfl rfl).trans ?_
  refine (bu (ls'' := [some (.ref l0), some (.ref l1), some (.ref l2), some (.ref l3), some (.int l4), none, none, none]) (st' := []) bf269_1404 bf269_1433 rfl rfl).trans ?_
  rfl
theorem bk269_216 {w : am_Wd} {l0 : Nat} {l1 : Nat} {l2 : Nat} {l3 : Nat} {l4 : Int32} {s0 : Int32} {s1 : Int32} {s2 : Nat} : am_run 269 216 [some (.ref l0), some (.ref l1), some (.ref l2), some (.ref l3), some (.int l4), none, none, none] [.int s0, .int s1, .ref s2] w = (am_ri 0 w l0 (l4 + (nI 3))).bind fun v => am_run 269 222 [some (.ref l0), some (.ref l1), some (.ref l2), some (.ref l3), some (.int l4), none, none, none] (.int v :: [.int s0, .int s1, .ref s2]) w := by
  refine (bu (ls'' := [some (.ref l0), some (.ref l1), some (.ref l2), some (.ref l3), some (.int l4), none, none, none]) (st' := [.ref l0, .int s0, .int s1, .ref s2]) bf269_216 bf269_217 rfl rfl).trans ?_
  refine (bu (ls'' := [some (.ref l0), some (.ref l1), some (.ref l2), some (.ref l3), some (.int l4), none, none, none]) (st' := [.int l4, .ref l0, .int s0, .int s1, .ref s2]) bf269_217 bf269_219 rfl rfl).trans ?_
  refine (bu (ls'' := [some (.ref l0), some (.ref l1), some (.ref l2), some (.ref l3), some (.int l4), none, none, none]) (st' := [.int (nI 3), .int l4, .ref l0, .int s0, .int s1, .ref s2]) bf269_219 bf269_220 rfl rfl).trans ?_
  refine (bu (ls'' := [some (.ref l0), some (.ref l1), some (.ref l2), some (.ref l3), some (.int l4), none, none, none]) (st' := [.int (l4 + (nI 3)), .ref l0, .int s0, .int s1, .ref s2]) bf269_220 bf269_221 rfl rfl).trans ?_
  exact bh bf269_221 bf269_222 rfl (fun _ _ => am_ge_rf w) rfl
theorem bk269_299 {w : am_Wd} {l0 : Nat} {l1 : Nat} {l2 : Nat} {l3 : Nat} {l4 : Int32} {s0 : Int32} {s1 : Int32} {s2 : Int32} {s3 : Nat} : am_run 269 299 [some (.ref l0), some (.ref l1), some (.ref l2), some (.ref l3), some (.int l4), none, none, none] [.int s0, .int s1, .int s2, .ref s3] w = (am_x 147 [.ref s3, .int s2, .int s1, .int s0, .ref l3] w).bind fun r => bct r fun v w' => am_run 269 303 [some (.ref l0), some (.ref l1), some (.ref l2), some (.ref l3), some (.int l4), none, none, none] (v.toList ++ []) w' := by
  refine (bu (ls'' := [some (.ref l0), some (.ref l1), some (.ref l2), some (.ref l3), some (.int l4), none, none, none]) (st' := [.ref l3, .int s0, .int s1, .int s2, .ref s3]) bf269_299 bf269_300 rfl rfl).trans ?_
  exact bkS bf269_300 bf269_303 rfl (by decide +kernel) (Nat.le_of_ble_eq_true rfl) rfl (bhd rfl)
theorem bk269_385 {w : am_Wd} {l0 : Nat} {l1 : Nat} {l2 : Nat} {l3 : Nat} {l4 : Int32} {s0 : Int32} : am_run 269 385 [some (.ref l0), some (.ref l1), some (.ref l2), some (.ref l3), some (.int l4), none, none, none] [.int s0] w = (am_ri 0 w l0 (l4 + (nI 1))).bind fun v => am_run 269 394 [some (.ref l0), some (.ref l1), some (.ref l2), some (.ref l3), some (.int l4), none, none, none] (.int v :: [.ref l2]) w := by
  refine (bu (ls'' := [some (.ref l0), some (.ref l1), some (.ref l2), some (.ref l3), some (.int l4), none, none, none]) (st' := []) bf269_385 bf269_387 rfl rfl).trans ?_
  refine (bu (ls'' := [some (.ref l0), some (.ref l1), some (.ref l2), some (.ref l3), some (.int l4), none, none, none]) (st' := [.ref l2]) bf269_387 bf269_388 rfl rfl).trans ?_
  refine (bu (ls'' := [some (.ref l0), some (.ref l1), some (.ref l2), some (.ref l3), some (.int l4), none, none, none]) (st' := [.ref l0, .ref l2]) bf269_388 bf269_389 rfl rfl).trans ?_
  refine (bu (ls'' := [some (.ref l0), some (.ref l1), some (.ref l2), some (.ref l3), some (.int l4), none, none, none]) (st' := [.int l4, .ref l0, .ref l2]) bf269_389 bf269_391 rfl rfl).trans ?_
  refine (bu (ls'' := [some (.ref l0), some (.ref l1), some (.ref l2), some (.ref l3), some (.int l4), none, none, none]) (st' := [.int (nI 1), .int l4, .ref l0, .ref l2]) bf269_391 bf269_392 rfl rfl).trans ?_
  refine (bu (ls'' := [some (.ref l0), some (.ref l1), some (.ref l2), some (.ref l3), some (.int l4), none, none, none]) (st' := [.int (l4 + (nI 1)), .ref l0, .ref l2]) bf269_392 bf269_393 rfl rfl).trans ?_
  exact bh bf269_393 bf269_394 rfl (fun _ _ => am_ge_rf w) rfl
theorem bk269_468 {w : am_Wd} {l0 : Nat} {l1 : Nat} {l2 : Nat} {l3 : Nat} {l4 : Int32} {s0 : Int32} {s1 : Int32} {s2 : Nat} : am_run 269 468 [some (.ref l0), some (.ref l1), some (.ref l2), some (.ref l3), some (.int l4), none, none, none] [.int s0, .int s1, .ref s2] w = if s0 = nI 0 then am_run 269 475 [some (.ref l0), some (.ref l1), some (.ref l2), some (.ref l3), some (.int l4), none, none, none] [.int s1, .ref s2] w else am_run 269 471 [some (.ref l0), some (.ref l1), some (.ref l2), some (.ref l3), some (.int l4), none, none, none] [.int s1, .ref s2] w := by
  exact bifc bf269_468 rfl bf269_475 bf269_471 rfl rfl rfl
theorem bk269_519 {w : am_Wd} {l0 : Nat} {l1 : Nat} {l2 : Nat} {l3 : Nat} {l4 : Int32} {s0 : Int32} {s1 : Int32} {s2 : Int32} {s3 : Nat} : am_run 269 519 [some (.ref l0), some (.ref l1), some (.ref l2), some (.ref l3), some (.int l4), none, none, none] [.int s0, .int s1, .int s2, .ref s3] w = (am_x 254 [.ref s3, .int s2, .int s1, .int s0, .ref l3] w).bind fun r => bct r fun v w' => am_run 269 523 [some (.ref l0), some (.ref l1), some (.ref l2), some (.ref l3), some (.int l4), none, none, none] (v.toList ++ []) w' := by
  refine (bu (ls'' := [some (.ref l0), some (.ref l1), some (.ref l2), some (.ref l3), some (.int l4), none, none, none]) (st' := [.ref l3, .int s0, .int s1, .int s2, .ref s3]) bf269_519 bf269_520 rfl rfl).trans ?_
  exact bkS bf269_520 bf269_523 rfl (by decide +kernel) (Nat.le_of_ble_eq_true rfl) rfl (bhd rfl)
theorem bk269_608 {w : am_Wd} {l0 : Nat} {l1 : Nat} {l2 : Nat} {l3 : Nat} {l4 : Int32} {s0 : Int32} {s1 : Int32} {s2 : Nat} : am_run 269 608 [some (.ref l0), some (.ref l1), some (.ref l2), some (.ref l3), some (.int l4), none, none, none] [.int s0, .int s1, .ref s2] w = if s0 = nI 0 then am_run 269 615 [some (.ref l0), some (.ref l1), some (.ref l2), some (.ref l3), some (.int l4), none, none, none] [.int s1, .ref s2] w else am_run 269 611 [some (.ref l0), some (.ref l1), some (.ref l2), some (.ref l3), some (.int l4), none, none, none] [.int s1, .ref s2] w := by
  exact bifc bf269_608 rfl bf269_615 bf269_611 rfl rfl rfl
theorem bk269_664 {w : am_Wd} {l0 : Nat} {l1 : Nat} {l2 : Nat} {l3 : Nat} {l4 : Int32} {s0 : Int32} {s1 : Int32} {s2 : Nat} : am_run 269 664 [some (.ref l0), some (.ref l1), some (.ref l2), some (.ref l3), some (.int l4), none, none, none] [.int s0, .int s1, .ref s2] w = if s0 = nI 0 then am_run 269 671 [some (.ref l0), some (.ref l1), some (.ref l2), some (.ref l3), some (.int l4), none, none, none] [.int s1, .ref s2] w else am_run 269 667 [some (.ref l0), some (.ref l1), some (.ref l2), some (.ref l3), some (.int l4), none, none, none] [.int s1, .ref s2] w := by
  exact bifc bf269_664 rfl bf269_671 bf269_667 rfl rfl rfl
theorem bk269_873 {w : am_Wd} {l0 : Nat} {l1 : Nat} {l2 : Nat} {l3 : Nat} {l4 : Int32} {s0 : Int32} {s1 : Int32} {s2 : Int32} {s3 : Nat} : am_run 269 873 [some (.ref l0), some (.ref l1), some (.ref l2), some (.ref l3), some (.int l4), none, none, none] [.int s0, .int s1, .int s2, .ref s3] w = (am_kf w s3 11).bind fun _ => (am_x 212 [.ref s3, .int s2, .int s1, .int s0] w).bind fun r => bct r fun v w' => am_run 269 876 [some (.ref l0), some (.ref l1), some (.ref l2), some (.ref l3), some (.int l4), none, none, none] (v.toList ++ []) w' := by
  exact bkV bf269_873 bf269_876 rfl (by decide +kernel) (Nat.le_of_ble_eq_true rfl) rfl (bhd rfl)
theorem bk269_1004 {w : am_Wd} {l0 : Nat} {l1 : Nat} {l2 : Nat} {l3 : Nat} {l4 : Int32} : am_run 269 1004 [some (.ref l0), some (.ref l1), some (.ref l2), some (.ref l3), some (.int l4), none, none, none] [] w = am_run 269 1433 [some (.ref l0), some (.ref l1), some (.ref l2), some (.ref l3), some (.int l4), none, none, none] [] w := by
  refine (bu (ls'' := [some (.ref l0), some (.ref l1), some (.ref l2), some (.ref l3), some (.int l4), none, none, none]) (st' := []) bf269_1004 bf269_1433 rfl rfl).trans ?_
  rfl
theorem bk269_990 {w : am_Wd} {l0 : Nat} {l1 : Nat} {l2 : Nat} {l3 : Nat} {l4 : Int32} {l6 : Nat} : am_run 269 990 [some (.ref l0), some (.ref l1), some (.ref l2), some (.ref l3), some (.int l4), none, some (.ref l6), none] [] w = (am_gf w l3 9 2).bind fun v => am_run 269 994 [some (.ref l0), some (.ref l1), some (.ref l2), some (.ref l3), some (.int l4), none, some (.ref l6), none] (v :: []) w := by
  refine (bu (ls'' := [some (.ref l0), some (.ref l1), some (.ref l2), some (.ref l3), some (.int l4), none, some (.ref l6), none]) (st' := [.ref l3]) bf269_990 bf269_991 rfl rfl).trans ?_
  exact bh bf269_991 bf269_994 rfl (fun _ _ => am_ge_rf w) rfl
theorem bk269_1051 {w : am_Wd} {l0 : Nat} {l1 : Nat} {l2 : Nat} {l3 : Nat} {l4 : Int32} {s0 : Int32} {s1 : Int32} {s2 : Int32} {s3 : Nat} : am_run 269 1051 [some (.ref l0), some (.ref l1), some (.ref l2), some (.ref l3), some (.int l4), none, none, none] [.int s0, .int s1, .int s2, .ref s3] w = (am_kf w s3 11).bind fun _ => (am_x 214 [.ref s3, .int s2, .int s1, .int s0] w).bind fun r => bct r fun v w' => am_run 269 1054 [some (.ref l0), some (.ref l1), some (.ref l2), some (.ref l3), some (.int l4), none, none, none] (v.toList ++ []) w' := by
  exact bkV bf269_1051 bf269_1054 rfl (by decide +kernel) (Nat.le_of_ble_eq_true rfl) rfl (bhd rfl)
theorem bk269_1183 {w : am_Wd} {l0 : Nat} {l1 : Nat} {l2 : Nat} {l3 : Nat} {l4 : Int32} {s0 : Int32} {s1 : Int32} {s2 : Int32} {s3 : Nat} : am_run 269 1183 [some (.ref l0), some (.ref l1), some (.ref l2), some (.ref l3), some (.int l4), none, none, none] [.int s0, .int s1, .int s2, .ref s3] w = (am_kf w s3 11).bind fun _ => (am_x 228 [.ref s3, .int s2, .int s1, .int s0] w).bind fun r => bct r fun v w' => am_run 269 1186 [some (.ref l0), some (.ref l1), some (.ref l2), some (.ref l3), some (.int l4), none, none, none] (v.toList ++ []) w' := by
  exact bkV bf269_1183 bf269_1186 rfl (by decide +kernel) (Nat.le_of_ble_eq_true rfl) rfl (bhd rfl)
theorem bk269_222 {w : am_Wd} {l0 : Nat} {l1 : Nat} {l2 : Nat} {l3 : Nat} {l4 : Int32} {s0 : Int32} {s1 : Int32} {s2 : Int32} {s3 : Nat} : am_run 269 222 [some (.ref l0), some (.ref l1), some (.ref l2), some (.ref l3), some (.int l4), none, none, none] [.int s0, .int s1, .int s2, .ref s3] w = (am_ri 0 w l0 (l4 + (nI 4))).bind fun v => am_run 269 228 [some (.ref l0), some (.ref l1), some (.ref l2), some (.ref l3), some (.int l4), none, none, none] (.int v :: [.int s0, .int s1, .int s2, .ref s3]) w := by
  refine (bu (ls'' := [some (.ref l0), some (.ref l1), some (.ref l2), some (.ref l3), some (.int l4), none, none, none]) (st' := [.ref l0, .int s0, .int s1, .int s2, .ref s3]) bf269_222 bf269_223 rfl rfl).trans ?_
  refine (bu (ls'' := [some (.ref l0), some (.ref l1), some (.ref l2), some (.ref l3), some (.int l4), none, none, none]) (st' := [.int l4, .ref l0, .int s0, .int s1, .int s2, .ref s3]) bf269_223 bf269_225 rfl rfl).trans ?_
  refine (bu (ls'' := [some (.ref l0), some (.ref l1), some (.ref l2), some (.ref l3), some (.int l4), none, none, none]) (st' := [.int (nI 4), .int l4, .ref l0, .int s0, .int s1, .int s2, .ref s3]) bf269_225 bf269_226 rfl rfl).trans ?_
  refine (bu (ls'' := [some (.ref l0), some (.ref l1), some (.ref l2), some (.ref l3), some (.int l4), none, none, none]) (st' := [.int (l4 + (nI 4)), .ref l0, .int s0, .int s1, .int s2, .ref s3]) bf269_226 bf269_227 rfl rfl).trans ?_
  exact bh bf269_227 bf269_228 rfl (fun _ _ => am_ge_rf w) rfl
theorem bk269_303 {w : am_Wd} {l0 : Nat} {l1 : Nat} {l2 : Nat} {l3 : Nat} {l4 : Int32} {s0 : Int32} : am_run 269 303 [some (.ref l0), some (.ref l1), some (.ref l2), some (.ref l3), some (.int l4), none, none, none] [.int s0] w = (am_ri 0 w l0 (l4 + (nI 1))).bind fun v => am_run 269 312 [some (.ref l0), some (.ref l1), some (.ref l2), some (.ref l3), some (.int l4), none, none, none] (.int v :: [.ref l2]) w := by
  refine (bu (ls'' := [some (.ref l0), some (.ref l1), some (.ref l2), some (.ref l3), some (.int l4), none, none, none]) (st' := []) bf269_303 bf269_305 rfl rfl).trans ?_
  refine (bu (ls'' := [some (.ref l0), some (.ref l1), some (.ref l2), some (.ref l3), some (.int l4), none, none, none]) (st' := [.ref l2]) bf269_305 bf269_306 rfl rfl).trans ?_
  refine (bu (ls'' := [some (.ref l0), some (.ref l1), some (.ref l2), some (.ref l3), some (.int l4), none, none, none]) (st' := [.ref l0, .ref l2]) bf269_306 bf269_307 rfl rfl).trans ?_
  refine (bu (ls'' := [some (.ref l0), some (.ref l1), some (.ref l2), some (.ref l3), some (.int l4), none, none, none]) (st' := [.int l4, .ref l0, .ref l2]) bf269_307 bf269_309 rfl rfl).trans ?_
  refine (bu (ls'' := [some (.ref l0), some (.ref l1), some (.ref l2), some (.ref l3), some (.int l4), none, none, none]) (st' := [.int (nI 1), .int l4, .ref l0, .ref l2]) bf269_309 bf269_310 rfl rfl).trans ?_
  refine (bu (ls'' := [some (.ref l0), some (.ref l1), some (.ref l2), some (.ref l3), some (.int l4), none, none, none]) (st' := [.int (l4 + (nI 1)), .ref l0, .ref l2]) bf269_310 bf269_311 rfl rfl).trans ?_
  exact bh bf269_311 bf269_312 rfl (fun _ _ => am_ge_rf w) rfl
theorem bk269_394 {w : am_Wd} {l0 : Nat} {l1 : Nat} {l2 : Nat} {l3 : Nat} {l4 : Int32} {s0 : Int32} {s1 : Nat} : am_run 269 394 [some (.ref l0), some (.ref l1), some (.ref l2), some (.ref l3), some (.int l4), none, none, none] [.int s0, .ref s1] w = (am_ri 0 w l0 (l4 + (nI 2))).bind fun v => am_run 269 400 [some (.ref l0), some (.ref l1), some (.ref l2), some (.ref l3), some (.int l4), none, none, none] (.int v :: [.int s0, .ref s1]) w := by
  refine (bu (ls'' := [some (.ref l0), some (.ref l1), some (.ref l2), some (.ref l3), some (.int l4), none, none, none]) (st' := [.ref l0, .int s0, .ref s1]) bf269_394 bf269_395 rfl rfl).trans ?_
  refine (bu (ls'' := [some (.ref l0), some (.ref l1), some (.ref l2), some (.ref l3), some (.int l4), none, none, none]) (st' := [.int l4, .ref l0, .int s0, .ref s1]) bf269_395 bf269_397 rfl rfl).trans ?_
  refine (bu (ls'' := [some (.ref l0), some (.ref l1), some (.ref l2), some (.ref l3), some (.int l4), none, none, none]) (st' := [.int (nI 2), .int l4, .ref l0, .int s0, .ref s1]) bf269_397 bf269_398 rfl rfl).trans ?_
  refine (bu (ls'' := [some (.ref l0), some (.ref l1), some (.ref l2), some (.ref l3), some (.int l4), none, none, none]) (st' := [.int (l4 + (nI 2)), .ref l0, .int s0, .ref s1]) bf269_398 bf269_399 rfl rfl).trans ?_
  exact bh bf269_399 bf269_400 rfl (fun _ _ => am_ge_rf w) rfl
theorem bk269_475 {w : am_Wd} {l0 : Nat} {l1 : Nat} {l2 : Nat} {l3 : Nat} {l4 : Int32} {s0 : Int32} {s1 : Nat} : am_run 269 475 [some (.ref l0), some (.ref l1), some (.ref l2), some (.ref l3), some (.int l4), none, none, none] [.int s0, .ref s1] w = am_run 269 476 [some (.ref l0), some (.ref l1), some (.ref l2), some (.ref l3), some (.int l4), none, none, none] [.int (nI 0), .int s0, .ref s1] w := by
  refine (bu (ls'' := [some (.ref l0), some (.ref l1), some (.ref l2), some (.ref l3), some (.int l4), none, none, none]) (st' := [.int (nI 0), .int s0, .ref s1]) bf269_475 bf269_476 rfl rfl).trans ?_
  rfl
theorem bk269_471 {w : am_Wd} {l0 : Nat} {l1 : Nat} {l2 : Nat} {l3 : Nat} {l4 : Int32} {s0 : Int32} {s1 : Nat} : am_run 269 471 [some (.ref l0), some (.ref l1), some (.ref l2), some (.ref l3), some (.int l4), none, none, none] [.int s0, .ref s1] w = am_run 269 476 [some (.ref l0), some (.ref l1), some (.ref l2), some (.ref l3), some (.int l4), none, none, none] [.int (nI 1), .int s0, .ref s1] w := by
  refine (bu (ls'' := [some (.ref l0), some (.ref l1), some (.ref l2), some (.ref l3), some (.int l4), none, none, none]) (st' := [.int (nI 1), .int s0, .ref s1]) bf269_471 bf269_472 rfl rfl).trans ?_
  refine (bu (ls'' := [some (.ref l0), some (.ref l1), some (.ref l2), some (.ref l3), some (.int l4), none, none, none]) (st' := [.int (nI 1), .int s0, .ref s1]) bf269_472 bf269_476 rfl rfl).trans ?_
  rfl
theorem bk269_523 {w : am_Wd} {l0 : Nat} {l1 : Nat} {l2 : Nat} {l3 : Nat} {l4 : Int32} {s0 : Int32} : am_run 269 523 [some (.ref l0), some (.ref l1), some (.ref l2), some (.ref l3), some (.int l4), none, none, none] [.int s0] w = (am_ri 0 w l0 (l4 + (nI 1))).bind fun v => am_run 269 532 [some (.ref l0), some (.ref l1), some (.ref l2), some (.ref l3), some (.int l4), none, none, none] (.int v :: [.ref l2]) w := by
  refine (bu (ls'' := [some (.ref l0), some (.ref l1), some (.ref l2), some (.ref l3), some (.int l4), none, none, none]) (st' := []) bf269_523 bf269_525 rfl rfl).trans ?_
  refine (bu (ls'' := [some (.ref l0), some (.ref l1), some (.ref l2), some (.ref l3), some (.int l4), none, none, none]) (st' := [.ref l2]) bf269_525 bf269_526 rfl rfl).trans ?_
  refine (bu (ls'' := [some (.ref l0), some (.ref l1), some (.ref l2), some (.ref l3), some (.int l4), none, none, none]) (st' := [.ref l0, .ref l2]) bf269_526 bf269_527 rfl rfl).trans ?_
  refine (bu (ls'' := [some (.ref l0), some (.ref l1), some (.ref l2), some (.ref l3), some (.int l4), none, none, none]) (st' := [.int l4, .ref l0, .ref l2]) bf269_527 bf269_529 rfl rfl).trans ?_
  refine (bu (ls'' := [some (.ref l0), some (.ref l1), some (.ref l2), some (.ref l3), some (.int l4), none, none, none]) (st' := [.int (nI 1), .int l4, .ref l0, .ref l2]) bf269_529 bf269_530 rfl rfl).trans ?_
  refine (bu (ls'' := [some (.ref l0), some (.ref l1), some (.ref l2), some (.ref l3), some (.int l4), none, none, none]) (st' := [.int (l4 + (nI 1)), .ref l0, .ref l2]) bf269_530 bf269_531 rfl rfl).trans ?_
  exact bh bf269_531 bf269_532 rfl (fun _ _ => am_ge_rf w) rfl
theorem bk269_615 {w : am_Wd} {l0 : Nat} {l1 : Nat} {l2 : Nat} {l3 : Nat} {l4 : Int32} {s0 : Int32} {s1 : Nat} : am_run 269 615 [some (.ref l0), some (.ref l1), some (.ref l2), some (.ref l3), some (.int l4), none, none, none] [.int s0, .ref s1] w = am_run 269 616 [some (.ref l0), some (.ref l1), some (.ref l2), some (.ref l3), some (.int l4), none, none, none] [.int (nI 0), .int s0, .ref s1] w := by
  refine (bu (ls'' := [some (.ref l0), some (.ref l1), some (.ref l2), some (.ref l3), some (.int l4), none, none, none]) (st' := [.int (nI 0), .int s0, .ref s1]) bf269_615 bf269_616 rfl rfl).trans ?_
  rfl
theorem bk269_611 {w : am_Wd} {l0 : Nat} {l1 : Nat} {l2 : Nat} {l3 : Nat} {l4 : Int32} {s0 : Int32} {s1 : Nat} : am_run 269 611 [some (.ref l0), some (.ref l1), some (.ref l2), some (.ref l3), some (.int l4), none, none, none] [.int s0, .ref s1] w = am_run 269 616 [some (.ref l0), some (.ref l1), some (.ref l2), some (.ref l3), some (.int l4), none, none, none] [.int (nI 1), .int s0, .ref s1] w := by
  refine (bu (ls'' := [some (.ref l0), some (.ref l1), some (.ref l2), some (.ref l3), some (.int l4), none, none, none]) (st' := [.int (nI 1), .int s0, .ref s1]) bf269_611 bf269_612 rfl rfl).trans ?_
  refine (bu (ls'' := [some (.ref l0), some (.ref l1), some (.ref l2), some (.ref l3), some (.int l4), none, none, none]) (st' := [.int (nI 1), .int s0, .ref s1]) bf269_612 bf269_616 rfl rfl).trans ?_
  rfl
theorem bk269_671 {w : am_Wd} {l0 : Nat} {l1 : Nat} {l2 : Nat} {l3 : Nat} {l4 : Int32} {s0 : Int32} {s1 : Nat} : am_run 269 671 [some (.ref l0), some (.ref l1), some (.ref l2), some (.ref l3), some (.int l4), none, none, none] [.int s0, .ref s1] w = am_run 269 672 [some (.ref l0), some (.ref l1), some (.ref l2), some (.ref l3), some (.int l4), none, none, none] [.int (nI 0), .int s0, .ref s1] w := by
  refine (bu (ls'' := [some (.ref l0), some (.ref l1), some (.ref l2), some (.ref l3), some (.int l4), none, none, none]) (st' := [.int (nI 0), .int s0, .ref s1]) bf269_671 bf269_672 rfl rfl).trans ?_
  rfl
theorem bk269_667 {w : am_Wd} {l0 : Nat} {l1 : Nat} {l2 : Nat} {l3 : Nat} {l4 : Int32} {s0 : Int32} {s1 : Nat} : am_run 269 667 [some (.ref l0), some (.ref l1), some (.ref l2), some (.ref l3), some (.int l4), none, none, none] [.int s0, .ref s1] w = am_run 269 672 [some (.ref l0), some (.ref l1), some (.ref l2), some (.ref l3), some (.int l4), none, none, none] [.int (nI 1), .int s0, .ref s1] w := by
  refine (bu (ls'' := [some (.ref l0), some (.ref l1), some (.ref l2), some (.ref l3), some (.int l4), none, none, none]) (st' := [.int (nI 1), .int s0, .ref s1]) bf269_667 bf269_668 rfl rfl).trans ?_
  refine (bu (ls'' := [some (.ref l0), some (.ref l1), some (.ref l2), some (.ref l3), some (.int l4), none, none, none]) (st' := [.int (nI 1), .int s0, .ref s1]) bf269_668 bf269_672 rfl rfl).trans ?_
  rfl
theorem bk269_876 {w : am_Wd} {l0 : Nat} {l1 : Nat} {l2 : Nat} {l3 : Nat} {l4 : Int32} {s0 : Int32} : am_run 269 876 [some (.ref l0), some (.ref l1), some (.ref l2), some (.ref l3), some (.int l4), none, none, none] [.int s0] w = am_run 269 1433 [some (.ref l0), some (.ref l1), some (.ref l2), some (.ref l3), some (.int l4), none, none, none] [] w := by
  refine (bu (ls'' := [some (.ref l0), some (.ref l1), some (.ref l2), some (.ref l3), some (.int l4), none, none, none]) (st' := []) bf269_876 bf269_878 rfl rfl).trans ?_
  refine (bu (ls'' := [some (.ref l0), some (.ref l1), some (.ref l2), some (.ref l3), some (.int l4), none, none, none]) (st' := []) bf269_878 bf269_1433 rfl rfl).trans ?_
  rfl
theorem bk269_994 {w : am_Wd} {l0 : Nat} {l1 : Nat} {l2 : Nat} {l3 : Nat} {l4 : Int32} {l6 : Nat} {s0 : Nat} : am_run 269 994 [some (.ref l0), some (.ref l1), some (.ref l2), some (.ref l3), some (.int l4), none, some (.ref l6), none] [.ref s0] w = (am_kf w s0 0).bind fun _ => (am_x 268 [.ref s0, .ref l6] w).bind fun r => bct r fun v w' => am_run 269 999 [some (.ref l0), some (.ref l1), some (.ref l2), some (.ref l3), some (.int l4), none, none, none] (v.toList ++ []) w' := by
  refine (bu (ls'' := [some (.ref l0), some (.ref l1), some (.ref l2), some (.ref l3), some (.int l4), none, none, none]) (st' := [.ref l6, .ref s0]) bf269_994 bf269_996 rfl rfl).trans ?_
  exact bkV bf269_996 bf269_999 rfl (by decide +kernel) (Nat.le_of_ble_eq_true rfl) rfl (bhd rfl)
theorem bk269_1054 {w : am_Wd} {l0 : Nat} {l1 : Nat} {l2 : Nat} {l3 : Nat} {l4 : Int32} {s0 : Int32} : am_run 269 1054 [some (.ref l0), some (.ref l1), some (.ref l2), some (.ref l3), some (.int l4), none, none, none] [.int s0] w = am_run 269 1433 [some (.ref l0), some (.ref l1), some (.ref l2), some (.ref l3), some (.int l4), none, none, none] [] w := by
  refine (bu (ls'' := [some (.ref l0), some (.ref l1), some (.ref l2), some (.ref l3), some (.int l4), none, none, none]) (st' := []) bf269_1054 bf269_1056 rfl rfl).trans ?_
  refine (bu (ls'' := [some (.ref l0), some (.ref l1), some (.ref l2), some (.ref l3), some (.int l4), none, none, none]) (st' := []) bf269_1056 bf269_1433 rfl rfl).trans ?_
  rfl
theorem bk269_1186 {w : am_Wd} {l0 : Nat} {l1 : Nat} {l2 : Nat} {l3 : Nat} {l4 : Int32} {s0 : Int32} : am_run 269 1186 [some (.ref l0), some (.ref l1), some (.ref l2), some (.ref l3), some (.int l4), none, none, none] [.int s0] w = am_run 269 1433 [some (.ref l0), some (.ref l1), some (.ref l2), some (.ref l3), some (.int l4), none, none, none] [] w := by
  refine (bu (ls'' := [some (.ref l0), some (.ref l1), some (.ref l2), some (.ref l3), some (.int l4), none, none, none]) (st' := []) bf269_1186 bf269_1188 rfl rfl).trans ?_
  refine (bu (ls'' := [some (.ref l0), some (.ref l1), some (.ref l2), some (.ref l3), some (.int l4), none, none, none]) (st' := []) bf269_1188 bf269_1433 rfl rfl).trans ?_
  rfl
theorem bk269_228 {w : am_Wd} {l0 : Nat} {l1 : Nat} {l2 : Nat} {l3 : Nat} {l4 : Int32} {s0 : Int32} {s1 : Int32} {s2 : Int32} {s3 : Int32} {s4 : Nat} : am_run 269 228 [some (.ref l0), some (.ref l1), some (.ref l2), some (.ref l3), some (.int l4), none, none, none] [.int s0, .int s1, .int s2, .int s3, .ref s4] w = (am_kf w s4 11).bind fun _ => (am_x 176 [.ref s4, .int s3, .int s2, .int s1, .int s0] w).bind fun r => bct r fun v w' => am_run 269 231 [some (.ref l0), some (.ref l1), some (.ref l2), some (.ref l3), some (.int l4), none, none, none] (v.toList ++ []) w' := by
  exact bkV bf269_228 bf269_231 rfl (by decide +kernel) (Nat.le_of_ble_eq_true rfl) rfl (bhd rfl)
theorem bk269_312 {w : am_Wd} {l0 : Nat} {l1 : Nat} {l2 : Nat} {l3 : Nat} {l4 : Int32} {s0 : Int32} {s1 : Nat} : am_run 269 312 [some (.ref l0), some (.ref l1), some (.ref l2), some (.ref l3), some (.int l4), none, none, none] [.int s0, .ref s1] w = (am_ri 0 w l0 (l4 + (nI 2))).bind fun v => am_run 269 318 [some (.ref l0), some (.ref l1), some (.ref l2), some (.ref l3), some (.int l4), none, none, none] (.int v :: [.int s0, .ref s1]) w := by
  refine (bu (ls'' := [some (.ref l0), some (.ref l1), some (.ref l2), some (.ref l3), some (.int l4), none, none, none]) (st' := [.ref l0, .int s0, .ref s1]) bf269_312 bf269_313 rfl rfl).trans ?_
  refine (bu (ls'' := [some (.ref l0), some (.ref l1), some (.ref l2), some (.ref l3), some (.int l4), none, none, none]) (st' := [.int l4, .ref l0, .int s0, .ref s1]) bf269_313 bf269_315 rfl rfl).trans ?_
  refine (bu (ls'' := [some (.ref l0), some (.ref l1), some (.ref l2), some (.ref l3), some (.int l4), none, none, none]) (st' := [.int (nI 2), .int l4, .ref l0, .int s0, .ref s1]) bf269_315 bf269_316 rfl rfl).trans ?_
  refine (bu (ls'' := [some (.ref l0), some (.ref l1), some (.ref l2), some (.ref l3), some (.int l4), none, none, none]) (st' := [.int (l4 + (nI 2)), .ref l0, .int s0, .ref s1]) bf269_316 bf269_317 rfl rfl).trans ?_
  exact bh bf269_317 bf269_318 rfl (fun _ _ => am_ge_rf w) rfl
theorem bk269_400 {w : am_Wd} {l0 : Nat} {l1 : Nat} {l2 : Nat} {l3 : Nat} {l4 : Int32} {s0 : Int32} {s1 : Int32} {s2 : Nat} : am_run 269 400 [some (.ref l0), some (.ref l1), some (.ref l2), some (.ref l3), some (.int l4), none, none, none] [.int s0, .int s1, .ref s2] w = (am_ri 0 w l0 (l4 + (nI 3))).bind fun v => am_run 269 406 [some (.ref l0), some (.ref l1), some (.ref l2), some (.ref l3), some (.int l4), none, none, none] (.int v :: [.int s0, .int s1, .ref s2]) w := by
  refine (bu (ls'' := [some (.ref l0), some (.ref l1), some (.ref l2), some (.ref l3), some (.int l4), none, none, none]) (st' := [.ref l0, .int s0, .int s1, .ref s2]) bf269_400 bf269_401 rfl rfl).trans ?_
  refine (bu (ls'' := [some (.ref l0), some (.ref l1), some (.ref l2), some (.ref l3), some (.int l4), none, none, none]) (st' := [.int l4, .ref l0, .int s0, .int s1, .ref s2]) bf269_401 bf269_403 rfl rfl).trans ?_
  refine (bu (ls'' := [some (.ref l0), some (.ref l1), some (.ref l2), some (.ref l3), some (.int l4), none, none, none]) (st' := [.int (nI 3), .int l4, .ref l0, .int s0, .int s1, .ref s2]) bf269_403 bf269_404 rfl rfl).trans ?_
  refine (bu (ls'' := [some (.ref l0), some (.ref l1), some (.ref l2), some (.ref l3), some (.int l4), none, none, none]) (st' := [.int (l4 + (nI 3)), .ref l0, .int s0, .int s1, .ref s2]) bf269_404 bf269_405 rfl rfl).trans ?_
  exact bh bf269_405 bf269_406 rfl (fun _ _ => am_ge_rf w) rfl
theorem bk269_476 {w : am_Wd} {l0 : Nat} {l1 : Nat} {l2 : Nat} {l3 : Nat} {l4 : Int32} {s0 : Int32} {s1 : Int32} {s2 : Nat} : am_run 269 476 [some (.ref l0), some (.ref l1), some (.ref l2), some (.ref l3), some (.int l4), none, none, none] [.int s0, .int s1, .ref s2] w = (am_kf w s2 11).bind fun _ => (am_x 260 [.ref s2, .int s1, .int s0] w).bind fun r => bct r fun v w' => am_run 269 479 [some (.ref l0), some (.ref l1), some (.ref l2), some (.ref l3), some (.int l4), none, none, none] (v.toList ++ []) w' := by
  exact bkV bf269_476 bf269_479 rfl (by decide +kernel) (Nat.le_of_ble_eq_true rfl) rfl (bhd rfl)
theorem bk269_532 {w : am_Wd} {l0 : Nat} {l1 : Nat} {l2 : Nat} {l3 : Nat} {l4 : Int32} {s0 : Int32} {s1 : Nat} : am_run 269 532 [some (.ref l0), some (.ref l1), some (.ref l2), some (.ref l3), some (.int l4), none, none, none] [.int s0, .ref s1] w = (am_ri 0 w l0 (l4 + (nI 2))).bind fun v => am_run 269 538 [some (.ref l0), some (.ref l1), some (.ref l2), some (.ref l3), some (.int l4), none, none, none] (.int v :: [.int s0, .ref s1]) w := by
  refine (bu (ls'' := [some (.ref l0), some (.ref l1), some (.ref l2), some (.ref l3), some (.int l4), none, none, none]) (st' := [.ref l0, .int s0, .ref s1]) bf269_532 bf269_533 rfl rfl).trans ?_
  refine (bu (ls'' := [some (.ref l0), some (.ref l1), some (.ref l2), some (.ref l3), some (.int l4), none, none, none]) (st' := [.int l4, .ref l0, .int s0, .ref s1]) bf269_533 bf269_535 rfl rfl).trans ?_
  refine (bu (ls'' := [some (.ref l0), some (.ref l1), some (.ref l2), some (.ref l3), some (.int l4), none, none, none]) (st' := [.int (nI 2), .int l4, .ref l0, .int s0, .ref s1]) bf269_535 bf269_536 rfl rfl).trans ?_
  refine (bu (ls'' := [some (.ref l0), some (.ref l1), some (.ref l2), some (.ref l3), some (.int l4), none, none, none]) (st' := [.int (l4 + (nI 2)), .ref l0, .int s0, .ref s1]) bf269_536 bf269_537 rfl rfl).trans ?_
  exact bh bf269_537 bf269_538 rfl (fun _ _ => am_ge_rf w) rfl
theorem bk269_616 {w : am_Wd} {l0 : Nat} {l1 : Nat} {l2 : Nat} {l3 : Nat} {l4 : Int32} {s0 : Int32} {s1 : Int32} {s2 : Nat} : am_run 269 616 [some (.ref l0), some (.ref l1), some (.ref l2), some (.ref l3), some (.int l4), none, none, none] [.int s0, .int s1, .ref s2] w = (am_kf w s2 11).bind fun _ => (am_x 262 [.ref s2, .int s1, .int s0] w).bind fun r => bct r fun v w' => am_run 269 619 [some (.ref l0), some (.ref l1), some (.ref l2), some (.ref l3), some (.int l4), none, none, none] (v.toList ++ []) w' := by
  exact bkV bf269_616 bf269_619 rfl (by decide +kernel) (Nat.le_of_ble_eq_true rfl) rfl (bhd rfl)
theorem bk269_672 {w : am_Wd} {l0 : Nat} {l1 : Nat} {l2 : Nat} {l3 : Nat} {l4 : Int32} {s0 : Int32} {s1 : Int32} {s2 : Nat} : am_run 269 672 [some (.ref l0), some (.ref l1), some (.ref l2), some (.ref l3), some (.int l4), none, none, none] [.int s0, .int s1, .ref s2] w = (am_kf w s2 11).bind fun _ => (am_x 263 [.ref s2, .int s1, .int s0] w).bind fun r => bct r fun v w' => am_run 269 675 [some (.ref l0), some (.ref l1), some (.ref l2), some (.ref l3), some (.int l4), none, none, none] (v.toList ++ []) w' := by
  exact bkV bf269_672 bf269_675 rfl (by decide +kernel) (Nat.le_of_ble_eq_true rfl) rfl (bhd rfl)
theorem bk269_999 {w : am_Wd} {l0 : Nat} {l1 : Nat} {l2 : Nat} {l3 : Nat} {l4 : Int32} {s0 : Int32} : am_run 269 999 [some (.ref l0), some (.ref l1), some (.ref l2), some (.ref l3), some (.int l4), none, none, none] [.int s0] w = if ¬ s0 = nI 0 then am_run 269 1004 [some (.ref l0), some (.ref l1), some (.ref l2), some (.ref l3), some (.int l4), none, none, none] [] w else am_run 269 1002 [none, none, none, none, none, none, none, none] [] w := by
  exact bifc bf269_999 rfl bf269_1004 bf269_1002 rfl rfl rfl
theorem bk269_231 {w : am_Wd} {l0 : Nat} {l1 : Nat} {l2 : Nat} {l3 : Nat} {l4 : Int32} {s0 : Int32} : am_run 269 231 [some (.ref l0), some (.ref l1), some (.ref l2), some (.ref l3), some (.int l4), none, none, none] [.int s0] w = am_run 269 1433 [some (.ref l0), some (.ref l1), some (.ref l2), some (.ref l3), some (.int l4), none, none, none] [] w := by
  refine (bu (ls'' := [some (.ref l0), some (.ref l1), some (.ref l2), some (.ref l3), some (.int l4), none, none, none]) (st' := []) bf269_231 bf269_233 rfl rfl).trans ?_
  refine (bu (ls'' := [some (.ref l0), some (.ref l1), some (.ref l2), some (.ref l3), some (.int l4), none, none, none]) (st' := []) bf269_233 bf269_1433 rfl rfl).trans ?_
  rfl
theorem bk269_318 {w : am_Wd} {l0 : Nat} {l1 : Nat} {l2 : Nat} {l3 : Nat} {l4 : Int32} {s0 : Int32} {s1 : Int32} {s2 : Nat} : am_run 269 318 [some (.ref l0), some (.ref l1), some (.ref l2), some (.ref l3), some (.int l4), none, none, none] [.int s0, .int s1, .ref s2] w = if s0 = nI 0 then am_run 269 325 [some (.ref l0), some (.ref l1), some (.ref l2), some (.ref l3), some (.int l4), none, none, none] [.int s1, .ref s2] w else am_run 269 321 [some (.ref l0), some (.ref l1), some (.ref l2), some (.ref l3), some (.int l4), none, none, none] [.int s1, .ref s2] w := by
  exact bifc bf269_318 rfl bf269_325 bf269_321 rfl rfl rfl
theorem bk269_406 {w : am_Wd} {l0 : Nat} {l1 : Nat} {l2 : Nat} {l3 : Nat} {l4 : Int32} {s0 : Int32} {s1 : Int32} {s2 : Int32} {s3 : Nat} : am_run 269 406 [some (.ref l0), some (.ref l1), some (.ref l2), some (.ref l3), some (.int l4), none, none, none] [.int s0, .int s1, .int s2, .ref s3] w = (am_ri 0 w l0 (l4 + (nI 4))).bind fun v => am_run 269 412 [some (.ref l0), some (.ref l1), some (.ref l2), some (.ref l3), some (.int l4), none, none, none] (.int v :: [.int s0, .int s1, .int s2, .ref s3]) w := by
  refine (bu (ls'' := [some (.ref l0), some (.ref l1), some (.ref l2), some (.ref l3), some (.int l4), none, none, none]) (st' := [.ref l0, .int s0, .int s1, .int s2, .ref s3]) bf269_406 bf269_407 rfl rfl).trans ?_
  refine (bu (ls'' := [some (.ref l0), some (.ref l1), some (.ref l2), some (.ref l3), some (.int l4), none, none, none]) (st' := [.int l4, .ref l0, .int s0, .int s1, .int s2, .ref s3]) bf269_407 bf269_409 rfl rfl).trans ?_
  refine (bu (ls'' := [some (.ref l0), some (.ref l1), some (.ref l2), some (.ref l3), some (.int l4), none, none, none]) (st' := [.int (nI 4), .int l4, .ref l0, .int s0, .int s1, .int s2, .ref s3]) bf269_409 bf269_410 rfl rfl).trans ?_
  refine (bu (ls'' := [some (.ref l0), some (.ref l1), some (.ref l2), some (.ref l3), some (.int l4), none, none, none]) (st' := [.int (l4 + (nI 4)), .ref l0, .int s0, .int s1, .int s2, .ref s3]) bf269_410 bf269_411 rfl rfl).trans ?_
  exact bh bf269_411 bf269_412 rfl (fun _ _ => am_ge_rf w) rfl
theorem bk269_479 {w : am_Wd} {l0 : Nat} {l1 : Nat} {l2 : Nat} {l3 : Nat} {l4 : Int32} {s0 : Int32} : am_run 269 479 [some (.ref l0), some (.ref l1), some (.ref l2), some (.ref l3), some (.int l4), none, none, none] [.int s0] w = am_run 269 1433 [some (.ref l0), some (.ref l1), some (.ref l2), some (.ref l3), some (.int l4), none, none, none] [] w := by
  refine (bu (ls'' := [some (.ref l0), some (.ref l1), some (.ref l2), some (.ref l3), some (.int l4), none, none, none]) (st' := []) bf269_479 bf269_481 rfl rfl).trans ?_
  refine (bu (ls'' := [some (.ref l0), some (.ref l1), some (.ref l2), some (.ref l3), some (.int l4), none, none, none]) (st' := []) bf269_481 bf269_1433 rfl rfl).trans ?_
  rfl
theorem bk269_538 {w : am_Wd} {l0 : Nat} {l1 : Nat} {l2 : Nat} {l3 : Nat} {l4 : Int32} {s0 : Int32} {s1 : Int32} {s2 : Nat} : am_run 269 538 [some (.ref l0), some (.ref l1), some (.ref l2), some (.ref l3), some (.int l4), none, none, none] [.int s0, .int s1, .ref s2] w = if s0 = nI 0 then am_run 269 545 [some (.ref l0), some (.ref l1), some (.ref l2), some (.ref l3), some (.int l4), none, none, none] [.int s1, .ref s2] w else am_run 269 541 [some (.ref l0), some (.ref l1), some (.ref l2), some (.ref l3), some (.int l4), none, none, none] [.int s1, .ref s2] w := by
  exact bifc bf269_538 rfl bf269_545 bf269_541 rfl rfl rfl
theorem bk269_619 {w : am_Wd} {l0 : Nat} {l1 : Nat} {l2 : Nat} {l3 : Nat} {l4 : Int32} {s0 : Int32} : am_run 269 619 [some (.ref l0), some (.ref l1), some (.ref l2), some (.ref l3), some (.int l4), none, none, none] [.int s0] w = am_run 269 1433 [some (.ref l0), some (.ref l1), some (.ref l2), some (.ref l3), some (.int l4), none, none, none] [] w := by
  refine (bu (ls'' := [some (.ref l0), some (.ref l1), some (.ref l2), some (.ref l3), some (.int l4), none, none, none]) (st' := []) bf269_619 bf269_621 rfl rfl).trans ?_
  refine (bu (ls'' := [some (.ref l0), some (.ref l1), some (.ref l2), some (.ref l3), some (.int l4), none, none, none]) (st' := []) bf269_621 bf269_1433 rfl rfl).trans ?_
  rfl
theorem bk269_675 {w : am_Wd} {l0 : Nat} {l1 : Nat} {l2 : Nat} {l3 : Nat} {l4 : Int32} {s0 : Int32} : am_run 269 675 [some (.ref l0), some (.ref l1), some (.ref l2), some (.ref l3), some (.int l4), none, none, none] [.int s0] w = am_run 269 1433 [some (.ref l0), some (.ref l1), some (.ref l2), some (.ref l3), some (.int l4), none, none, none] [] w := by
  refine (bu (ls'' := [some (.ref l0), some (.ref l1), some (.ref l2), some (.ref l3), some (.int l4), none, none, none]) (st' := []) bf269_675 bf269_677 rfl rfl).trans ?_
  refine (bu (ls'' := [some (.ref l0), some (.ref l1), some (.ref l2), some (.ref l3), some (.int l4), none, none, none]) (st' := []) bf269_677 bf269_1433 rfl rfl).trans ?_
  rfl
theorem bk269_1002 {w : am_Wd}  : am_run 269 1002 [none, none, none, none, none, none, none, none] [] w = some (.inl (some (.int (nI 0))), w) := by
  refine (bu (ls'' := [none, none, none, none, none, none, none, none]) (st' := [.int (nI 0)]) bf269_1002 bf269_1003 rfl rfl).trans ?_
  exact am_e2 bf269_1003 rfl (am_ge_rf w)
theorem bk269_325 {w : am_Wd} {l0 : Nat} {l1 : Nat} {l2 : Nat} {l3 : Nat} {l4 : Int32} {s0 : Int32} {s1 : Nat} : am_run 269 325 [some (.ref l0), some (.ref l1), some (.ref l2), some (.ref l3), some (.int l4), none, none, none] [.int s0, .ref s1] w = am_run 269 326 [some (.ref l0), some (.ref l1), some (.ref l2), some (.ref l3), some (.int l4), none, none, none] [.int (nI 0), .int s0, .ref s1] w := by
  refine (bu (ls'' := [some (.ref l0), some (.ref l1), some (.ref l2), some (.ref l3), some (.int l4), none, none, none]) (st' := [.int (nI 0), .int s0, .ref s1]) bf269_325 bf269_326 rfl rfl).trans ?_
  rfl
theorem bk269_321 {w : am_Wd} {l0 : Nat} {l1 : Nat} {l2 : Nat} {l3 : Nat} {l4 : Int32} {s0 : Int32} {s1 : Nat} : am_run 269 321 [some (.ref l0), some (.ref l1), some (.ref l2), some (.ref l3), some (.int l4), none, none, none] [.int s0, .ref s1] w = am_run 269 326 [some (.ref l0), some (.ref l1), some (.ref l2), some (.ref l3), some (.int l4), none, none, none] [.int (nI 1), .int s0, .ref s1] w := by
  refine (bu (ls'' := [some (.ref l0), some (.ref l1), some (.ref l2), some (.ref l3), some (.int l4), none, none, none]) (st' := [.int (nI 1), .int s0, .ref s1]) bf269_321 bf269_322 rfl rfl).trans ?_
  refine (bu (ls'' := [some (.ref l0), some (.ref l1), some (.ref l2), some (.ref l3), some (.int l4), none, none, none]) (st' := [.int (nI 1), .int s0, .ref s1]) bf269_322 bf269_326 rfl rfl).trans ?_
  rfl
theorem bk269_412 {w : am_Wd} {l0 : Nat} {l1 : Nat} {l2 : Nat} {l3 : Nat} {l4 : Int32} {s0 : Int32} {s1 : Int32} {s2 : Int32} {s3 : Int32} {s4 : Nat} : am_run 269 412 [some (.ref l0), some (.ref l1), some (.ref l2), some (.ref l3), some (.int l4), none, none, none] [.int s0, .int s1, .int s2, .int s3, .ref s4] w = if s0 = nI 0 then am_run 269 419 [some (.ref l0), some (.ref l1), some (.ref l2), some (.ref l3), some (.int l4), none, none, none] [.int s1, .int s2, .int s3, .ref s4] w else am_run 269 415 [some (.ref l0), some (.ref l1), some (.ref l2), some (.ref l3), some (.int l4), none, none, none] [.int s1, .int s2, .int s3, .ref s4] w := by
  exact bifc bf269_412 rfl bf269_419 bf269_415 rfl rfl rfl
theorem bk269_545 {w : am_Wd} {l0 : Nat} {l1 : Nat} {l2 : Nat} {l3 : Nat} {l4 : Int32} {s0 : Int32} {s1 : Nat} : am_run 269 545 [some (.ref l0), some (.ref l1), some (.ref l2), some (.ref l3), some (.int l4), none, none, none] [.int s0, .ref s1] w = am_run 269 546 [some (.ref l0), some (.ref l1), some (.ref l2), some (.ref l3), some (.int l4), none, none, none] [.int (nI 0), .int s0, .ref s1] w := by
  refine (bu (ls'' := [some (.ref l0), some (.ref l1), some (.ref l2), some (.ref l3), some (.int l4), none, none, none]) (st' := [.int (nI 0), .int s0, .ref s1]) bf269_545 bf269_546 rfl rfl).trans ?_
  rfl
theorem bk269_541 {w : am_Wd} {l0 : Nat} {l1 : Nat} {l2 : Nat} {l3 : Nat} {l4 : Int32} {s0 : Int32} {s1 : Nat} : am_run 269 541 [some (.ref l0), some (.ref l1), some (.ref l2), some (.ref l3), some (.int l4), none, none, none] [.int s0, .ref s1] w = am_run 269 546 [some (.ref l0), some (.ref l1), some (.ref l2), some (.ref l3), some (.int l4), none, none, none] [.int (nI 1), .int s0, .ref s1] w := by
  refine (bu (ls'' := [some (.ref l0), some (.ref l1), some (.ref l2), some (.ref l3), some (.int l4), none, none, none]) (st' := [.int (nI 1), .int s0, .ref s1]) bf269_541 bf269_542 rfl rfl).trans ?_
  refine (bu (ls'' := [some (.ref l0), some (.ref l1), some (.ref l2), some (.ref l3), some (.int l4), none, none, none]) (st' := [.int (nI 1), .int s0, .ref s1]) bf269_542 bf269_546 rfl rfl).trans ?_
  rfl
theorem bk269_326 {w : am_Wd} {l0 : Nat} {l1 : Nat} {l2 : Nat} {l3 : Nat} {l4 : Int32} {s0 : Int32} {s1 : Int32} {s2 : Nat} : am_run 269 326 [some (.ref l0), some (.ref l1), some (.ref l2), some (.ref l3), some (.int l4), none, none, none] [.int s0, .int s1, .ref s2] w = (am_ri 0 w l0 (l4 + (nI 3))).bind fun v => am_run 269 332 [some (.ref l0), some (.ref l1), some (.ref l2), some (.ref l3), some (.int l4), none, none, none] (.int v :: [.int s0, .int s1, .ref s2]) w := by
  refine (bu (ls'' := [some (.ref l0), some (.ref l1), some (.ref l2), some (.ref l3), some (.int l4), none, none, none]) (st' := [.ref l0, .int s0, .int s1, .ref s2]) bf269_326 bf269_327 rfl rfl).trans ?_
  refine (bu (ls'' := [some (.ref l0), some (.ref l1), some (.ref l2), some (.ref l3), some (.int l4), none, none, none]) (st' := [.int l4, .ref l0, .int s0, .int s1, .ref s2]) bf269_327 bf269_329 rfl rfl).trans ?_
  refine (bu (ls'' := [some (.ref l0), some (.ref l1), some (.ref l2), some (.ref l3), some (.int l4), none, none, none]) (st' := [.int (nI 3), .int l4, .ref l0, .int s0, .int s1, .ref s2]) bf269_329 bf269_330 rfl rfl).trans ?_
  refine (bu (ls'' := [some (.ref l0), some (.ref l1), some (.ref l2), some (.ref l3), some (.int l4), none, none, none]) (st' := [.int (l4 + (nI 3)), .ref l0, .int s0, .int s1, .ref s2]) bf269_330 bf269_331 rfl rfl).trans ?_
  exact bh bf269_331 bf269_332 rfl (fun _ _ => am_ge_rf w) rfl
theorem bk269_419 {w : am_Wd} {l0 : Nat} {l1 : Nat} {l2 : Nat} {l3 : Nat} {l4 : Int32} {s0 : Int32} {s1 : Int32} {s2 : Int32} {s3 : Nat} : am_run 269 419 [some (.ref l0), some (.ref l1), some (.ref l2), some (.ref l3), some (.int l4), none, none, none] [.int s0, .int s1, .int s2, .ref s3] w = am_run 269 420 [some (.ref l0), some (.ref l1), some (.ref l2), some (.ref l3), some (.int l4), none, none, none] [.int (nI 0), .int s0, .int s1, .int s2, .ref s3] w := by
  refine (bu (ls'' := [some (.ref l0), some (.ref l1), some (.ref l2), some (.ref l3), some (.int l4), none, none, none]) (st' := [.int (nI 0), .int s0, .int s1, .int s2, .ref s3]) bf269_419 bf269_420 rfl rfl).trans ?_
  rfl
theorem bk269_415 {w : am_Wd} {l0 : Nat} {l1 : Nat} {l2 : Nat} {l3 : Nat} {l4 : Int32} {s0 : Int32} {s1 : Int32} {s2 : Int32} {s3 : Nat} : am_run 269 415 [some (.ref l0), some (.ref l1), some (.ref l2), some (.ref l3), some (.int l4), none, none, none] [.int s0, .int s1, .int s2, .ref s3] w = am_run 269 420 [some (.ref l0), some (.ref l1), some (.ref l2), some (.ref l3), some (.int l4), none, none, none] [.int (nI 1), .int s0, .int s1, .int s2, .ref s3] w := by
  refine (bu (ls'' := [some (.ref l0), some (.ref l1), some (.ref l2), some (.ref l3), some (.int l4), none, none, none]) (st' := [.int (nI 1), .int s0, .int s1, .int s2, .ref s3]) bf269_415 bf269_416 rfl rfl).trans ?_
  refine (bu (ls'' := [some (.ref l0), some (.ref l1), some (.ref l2), some (.ref l3), some (.int l4), none, none, none]) (st' := [.int (nI 1), .int s0, .int s1, .int s2, .ref s3]) bf269_416 bf269_420 rfl rfl).trans ?_
  rfl
theorem bk269_546 {w : am_Wd} {l0 : Nat} {l1 : Nat} {l2 : Nat} {l3 : Nat} {l4 : Int32} {s0 : Int32} {s1 : Int32} {s2 : Nat} : am_run 269 546 [some (.ref l0), some (.ref l1), some (.ref l2), some (.ref l3), some (.int l4), none, none, none] [.int s0, .int s1, .ref s2] w = (am_ri 0 w l0 (l4 + (nI 3))).bind fun v => am_run 269 552 [some (.ref l0), some (.ref l1), some (.ref l2), some (.ref l3), some (.int l4), none, none, none] (.int v :: [.int s0, .int s1, .ref s2]) w := by
  refine (bu (ls'' := [some (.ref l0), some (.ref l1), some (.ref l2), some (.ref l3), some (.int l4), none, none, none]) (st' := [.ref l0, .int s0, .int s1, .ref s2]) bf269_546 bf269_547 rfl rfl).trans ?_
  refine (bu (ls'' := [some (.ref l0), some (.ref l1), some (.ref l2), some (.ref l3), some (.int l4), none, none, none]) (st' := [.int l4, .ref l0, .int s0, .int s1, .ref s2]) bf269_547 bf269_549 rfl rfl).trans ?_
  refine (bu (ls'' := [some (.ref l0), some (.ref l1), some (.ref l2), some (.ref l3), some (.int l4), none, none, none]) (st' := [.int (nI 3), .int l4, .ref l0, .int s0, .int s1, .ref s2]) bf269_549 bf269_550 rfl rfl).trans ?_
  refine (bu (ls'' := [some (.ref l0), some (.ref l1), some (.ref l2), some (.ref l3), some (.int l4), none, none, none]) (st' := [.int (l4 + (nI 3)), .ref l0, .int s0, .int s1, .ref s2]) bf269_550 bf269_551 rfl rfl).trans ?_
  exact bh bf269_551 bf269_552 rfl (fun _ _ => am_ge_rf w) rfl
theorem bk269_332 {w : am_Wd} {l0 : Nat} {l1 : Nat} {l2 : Nat} {l3 : Nat} {l4 : Int32} {s0 : Int32} {s1 : Int32} {s2 : Int32} {s3 : Nat} : am_run 269 332 [some (.ref l0), some (.ref l1), some (.ref l2), some (.ref l3), some (.int l4), none, none, none] [.int s0, .int s1, .int s2, .ref s3] w = if s0 = nI 0 then am_run 269 339 [some (.ref l0), some (.ref l1), some (.ref l2), some (.ref l3), some (.int l4), none, none, none] [.int s1, .int s2, .ref s3] w else am_run 269 335 [some (.ref l0), some (.ref l1), some (.ref l2), some (.ref l3), some (.int l4), none, none, none] [.int s1, .int s2, .ref s3] w := by
  exact bifc bf269_332 rfl bf269_339 bf269_335 rfl rfl rfl
theorem bk269_420 {w : am_Wd} {l0 : Nat} {l1 : Nat} {l2 : Nat} {l3 : Nat} {l4 : Int32} {s0 : Int32} {s1 : Int32} {s2 : Int32} {s3 : Int32} {s4 : Nat} : am_run 269 420 [some (.ref l0), some (.ref l1), some (.ref l2), some (.ref l3), some (.int l4), none, none, none] [.int s0, .int s1, .int s2, .int s3, .ref s4] w = (am_kf w s4 11).bind fun _ => (am_x 207 [.ref s4, .int s3, .int s2, .int s1, .int s0] w).bind fun r => bct r fun v w' => am_run 269 423 [some (.ref l0), some (.ref l1), some (.ref l2), some (.ref l3), some (.int l4), none, none, none] (v.toList ++ []) w' := by
  exact bkV bf269_420 bf269_423 rfl (by decide +kernel) (Nat.le_of_ble_eq_true rfl) rfl (bhd rfl)
theorem bk269_552 {w : am_Wd} {l0 : Nat} {l1 : Nat} {l2 : Nat} {l3 : Nat} {l4 : Int32} {s0 : Int32} {s1 : Int32} {s2 : Int32} {s3 : Nat} : am_run 269 552 [some (.ref l0), some (.ref l1), some (.ref l2), some (.ref l3), some (.int l4), none, none, none] [.int s0, .int s1, .int s2, .ref s3] w = if s0 = nI 0 then am_run 269 559 [some (.ref l0), some (.ref l1), some (.ref l2), some (.ref l3), some (.int l4), none, none, none] [.int s1, .int s2, .ref s3] w else am_run 269 555 [some (.ref l0), some (.ref l1), some (.ref l2), some (.ref l3), some (.int l4), none, none, none] [.int s1, .int s2, .ref s3] w := by
  exact bifc bf269_552 rfl bf269_559 bf269_555 rfl rfl rfl
theorem bk269_339 {w : am_Wd} {l0 : Nat} {l1 : Nat} {l2 : Nat} {l3 : Nat} {l4 : Int32} {s0 : Int32} {s1 : Int32} {s2 : Nat} : am_run 269 339 [some (.ref l0), some (.ref l1), some (.ref l2), some (.ref l3), some (.int l4), none, none, none] [.int s0, .int s1, .ref s2] w = am_run 269 340 [some (.ref l0), some (.ref l1), some (.ref l2), some (.ref l3), some (.int l4), none, none, none] [.int (nI 0), .int s0, .int s1, .ref s2] w := by
  refine (bu (ls'' := [some (.ref l0), some (.ref l1), some (.ref l2), some (.ref l3), some (.int l4), none, none, none]) (st' := [.int (nI 0), .int s0, .int s1, .ref s2]) bf269_339 bf269_340 rfl rfl).trans ?_
  rfl
theorem bk269_335 {w : am_Wd} {l0 : Nat} {l1 : Nat} {l2 : Nat} {l3 : Nat} {l4 : Int32} {s0 : Int32} {s1 : Int32} {s2 : Nat} : am_run 269 335 [some (.ref l0), some (.ref l1), some (.ref l2), some (.ref l3), some (.int l4), none, none, none] [.int s0, .int s1, .ref s2] w = am_run 269 340 [some (.ref l0), some (.ref l1), some (.ref l2), some (.ref l3), some (.int l4), none, none, none] [.int (nI 1), .int s0, .int s1, .ref s2] w := by
  refine (bu (ls'' := [some (.ref l0), some (.ref l1), some (.ref l2), some (.ref l3), some (.int l4), none, none, none]) (st' := [.int (nI 1), .int s0, .int s1, .ref s2]) bf269_335 bf269_336 rfl rfl).trans ?_
  refine (bu (ls'' := [some (.ref l0), some (.ref l1), some (.ref l2), some (.ref l3), some (.int l4), none, none, none]) (st' := [.int (nI 1), .int s0, .int s1, .ref s2]) bf269_336 bf269_340 rfl rfl).trans ?_
  rfl
theorem bk269_423 {w : am_Wd} {l0 : Nat} {l1 : Nat} {l2 : Nat} {l3 : Nat} {l4 : Int32} {s0 : Int32} : am_run 269 423 [some (.ref l0), some (.ref l1), some (.ref l2), some (.ref l3), some (.int l4), none, none, none] [.int s0] w = am_run 269 1433 [some (.ref l0), some (.ref l1), some (.ref l2), some (.ref l3), some (.int l4), none, none, none] [] w := by
  refine (bu (ls'' := [some (.ref l0), some (.ref l1), some (.ref l2), some (.ref l3), some (.int l4), none, none, none]) (st' := []) bf269_423 bf269_425 rfl rfl).trans ?_
  refine (bu (ls'' := [some (.ref l0), some (.ref l1), some (.ref l2), some (.ref l3), some (.int l4), none, none, none]) (st' := []) bf269_425 bf269_1433 rfl rfl).trans ?_
  rfl
theorem bk269_559 {w : am_Wd} {l0 : Nat} {l1 : Nat} {l2 : Nat} {l3 : Nat} {l4 : Int32} {s0 : Int32} {s1 : Int32} {s2 : Nat} : am_run 269 559 [some (.ref l0), some (.ref l1), some (.ref l2), some (.ref l3), some (.int l4), none, none, none] [.int s0, .int s1, .ref s2] w = am_run 269 560 [some (.ref l0), some (.ref l1), some (.ref l2), some (.ref l3), some (.int l4), none, none, none] [.int (nI 0), .int s0, .int s1, .ref s2] w := by
  refine (bu (ls'' := [some (.ref l0), some (.ref l1), some (.ref l2), some (.ref l3), some (.int l4), none, none, none]) (st' := [.int (nI 0), .int s0, .int s1, .ref s2]) bf269_559 bf269_560 rfl rfl).trans ?_
  rfl
theorem bk269_555 {w : am_Wd} {l0 : Nat} {l1 : Nat} {l2 : Nat} {l3 : Nat} {l4 : Int32} {s0 : Int32} {s1 : Int32} {s2 : Nat} : am_run 269 555 [some (.ref l0), some (.ref l1), some (.ref l2), some (.ref l3), some (.int l4), none, none, none] [.int s0, .int s1, .ref s2] w = am_run 269 560 [some (.ref l0), some (.ref l1), some (.ref l2), some (.ref l3), some (.int l4), none, none, none] [.int (nI 1), .int s0, .int s1, .ref s2] w := by
  refine (bu (ls'' := [some (.ref l0), some (.ref l1), some (.ref l2), some (.ref l3), some (.int l4), none, none, none]) (st' := [.int (nI 1), .int s0, .int s1, .ref s2]) bf269_555 bf269_556 rfl rfl).trans ?_
  refine (bu (ls'' := [some (.ref l0), some (.ref l1), some (.ref l2), some (.ref l3), some (.int l4), none, none, none]) (st' := [.int (nI 1), .int s0, .int s1, .ref s2]) bf269_556 bf269_560 rfl rfl).trans ?_
  rfl
theorem bk269_340 {w : am_Wd} {l0 : Nat} {l1 : Nat} {l2 : Nat} {l3 : Nat} {l4 : Int32} {s0 : Int32} {s1 : Int32} {s2 : Int32} {s3 : Nat} : am_run 269 340 [some (.ref l0), some (.ref l1), some (.ref l2), some (.ref l3), some (.int l4), none, none, none] [.int s0, .int s1, .int s2, .ref s3] w = (am_kf w s3 11).bind fun _ => (am_x 144 [.ref s3, .int s2, .int s1, .int s0] w).bind fun r => bct r fun v w' => am_run 269 343 [some (.ref l0), some (.ref l1), some (.ref l2), some (.ref l3), some (.int l4), none, none, none] (v.toList ++ []) w' := by
  exact bkV bf269_340 bf269_343 rfl (by decide +kernel) (Nat.le_of_ble_eq_true rfl) rfl (bhd rfl)
theorem bk269_560 {w : am_Wd} {l0 : Nat} {l1 : Nat} {l2 : Nat} {l3 : Nat} {l4 : Int32} {s0 : Int32} {s1 : Int32} {s2 : Int32} {s3 : Nat} : am_run 269 560 [some (.ref l0), some (.ref l1), some (.ref l2), some (.ref l3), some (.int l4), none, none, none] [.int s0, .int s1, .int s2, .ref s3] w = (am_kf w s3 11).bind fun _ => (am_x 261 [.ref s3, .int s2, .int s1, .int s0] w).bind fun r => bct r fun v w' => am_run 269 563 [some (.ref l0), some (.ref l1), some (.ref l2), some (.ref l3), some (.int l4), none, none, none] (v.toList ++ []) w' := by
  exact bkV bf269_560 bf269_563 rfl (by decide +kernel) (Nat.le_of_ble_eq_true rfl) rfl (bhd rfl)
theorem bk269_343 {w : am_Wd} {l0 : Nat} {l1 : Nat} {l2 : Nat} {l3 : Nat} {l4 : Int32} {s0 : Int32} : am_run 269 343 [some (.ref l0), some (.ref l1), some (.ref l2), some (.ref l3), some (.int l4), none, none, none] [.int s0] w = am_run 269 1433 [some (.ref l0), some (.ref l1), some (.ref l2), some (.ref l3), some (.int l4), none, none, none] [] w := by
  refine (bu (ls'' := [some (.ref l0), some (.ref l1), some (.ref l2), some (.ref l3), some (.int l4), none, none, none]) (st' := []) bf269_343 bf269_345 rfl rfl).trans ?_
  refine (bu (ls'' := [some (.ref l0), some (.ref l1), some (.ref l2), some (.ref l3), some (.int l4), none, none, none]) (st' := []) bf269_345 bf269_1433 rfl rfl).trans ?_
  rfl
theorem bk269_563 {w : am_Wd} {l0 : Nat} {l1 : Nat} {l2 : Nat} {l3 : Nat} {l4 : Int32} {s0 : Int32} : am_run 269 563 [some (.ref l0), some (.ref l1), some (.ref l2), some (.ref l3), some (.int l4), none, none, none] [.int s0] w = am_run 269 1433 [some (.ref l0), some (.ref l1), some (.ref l2), some (.ref l3), some (.int l4), none, none, none] [] w := by
  refine (bu (ls'' := [some (.ref l0), some (.ref l1), some (.ref l2), some (.ref l3), some (.int l4), none, none, none]) (st' := []) bf269_563 bf269_565 rfl rfl).trans ?_
  refine (bu (ls'' := [some (.ref l0), some (.ref l1), some (.ref l2), some (.ref l3), some (.int l4), none, none, none]) (st' := []) bf269_565 bf269_1433 rfl rfl).trans ?_
  rfl
theorem bx0 {w : am_Wd} {a0 : Nat} : am_x 0 [.ref a0] w = am_run 0 0 [some (.ref a0)] [] w :=
  congrArg (fun l => am_run 0 0 l [] w) (bnr (ls := am_xp [.ref a0] ++ List.replicate (am_ml 0 - (am_xp [.ref a0]).length) none) (ls' := [some (.ref a0)]) bf0_0 rfl)
theorem bx1 {w : am_Wd} {a0 : Nat} : am_x 1 [.ref a0] w = am_run 1 0 [some (.ref a0), none] [] w :=
  congrArg (fun l => am_run 1 0 l [] w) (bnr (ls := am_xp [.ref a0] ++ List.replicate (am_ml 1 - (am_xp [.ref a0]).length) none) (ls' := [some (.ref a0), none]) bf1_0 rfl)
theorem bx2 {w : am_Wd} {a0 : Nat} {a1 : Int32} : am_x 2 [.ref a0, .int a1] w = am_run 2 0 [some (.ref a0), some (.int a1), none] [] w :=
  congrArg (fun l => am_run 2 0 l [] w) (bnr (ls := am_xp [.ref a0, .int a1] ++ List.replicate (am_ml 2 - (am_xp [.ref a0, .int a1]).length) none) (ls' := [some (.ref a0), some (.int a1), none]) bf2_0 rfl)
theorem bx3 {w : am_Wd} {a0 : Nat} : am_x 3 [.ref a0] w = am_run 3 0 [some (.ref a0), none, none, none] [] w :=
  congrArg (fun l => am_run 3 0 l [] w) (bnr (ls := am_xp [.ref a0] ++ List.replicate (am_ml 3 - (am_xp [.ref a0]).length) none) (ls' := [some (.ref a0), none, none, none]) bf3_0 rfl)
theorem bx4 {w : am_Wd} {a0 : Nat} : am_x 4 [.ref a0] w = am_run 4 0 [some (.ref a0), none, none, none] [] w :=
  congrArg (fun l => am_run 4 0 l [] w) (bnr (ls := am_xp [.ref a0] ++ List.replicate (am_ml 4 - (am_xp [.ref a0]).length) none) (ls' := [some (.ref a0), none, none, none]) bf4_0 rfl)
theorem bx5 {w : am_Wd} {a0 : Nat} : am_x 5 [.ref a0] w = am_run 5 0 [some (.ref a0), none, none, none] [] w :=
  congrArg (fun l => am_run 5 0 l [] w) (bnr (ls := am_xp [.ref a0] ++ List.replicate (am_ml 5 - (am_xp [.ref a0]).length) none) (ls' := [some (.ref a0), none, none, none]) bf5_0 rfl)
theorem bx6 {w : am_Wd} {a0 : Nat} : am_x 6 [.ref a0] w = am_run 6 0 [some (.ref a0)] [] w :=
  congrArg (fun l => am_run 6 0 l [] w) (bnr (ls := am_xp [.ref a0] ++ List.replicate (am_ml 6 - (am_xp [.ref a0]).length) none) (ls' := [some (.ref a0)]) bf6_0 rfl)
theorem bx7 {w : am_Wd} {a0 : Int32} : am_x 7 [.int a0] w = am_run 7 0 [some (.int a0)] [] w :=
  congrArg (fun l => am_run 7 0 l [] w) (bnr (ls := am_xp [.int a0] ++ List.replicate (am_ml 7 - (am_xp [.int a0]).length) none) (ls' := [some (.int a0)]) bf7_0 rfl)
theorem bx8 {w : am_Wd} {a0 : Nat} {a1 : Int32} {a2 : Int32} {a3 : Int32} : am_x 8 [.ref a0, .int a1, .int a2, .int a3] w = am_run 8 0 [some (.ref a0), some (.int a1), some (.int a2), some (.int a3), none, none] [] w :=
  congrArg (fun l => am_run 8 0 l [] w) (bnr (ls := am_xp [.ref a0, .int a1, .int a2, .int a3] ++ List.replicate (am_ml 8 - (am_xp [.ref a0, .int a1, .int a2, .int a3]).length) none) (ls' := [some (.ref a0), some (.int a1), some (.int a2), some (.int a3), none, none]) bf8_0 rfl)
theorem bx9 {w : am_Wd} {a0 : Int32} {a1 : Int32} : am_x 9 [.int a0, .int a1] w = am_run 9 0 [some (.int a0), some (.int a1)] [] w :=
  congrArg (fun l => am_run 9 0 l [] w) (bnr (ls := am_xp [.int a0, .int a1] ++ List.replicate (am_ml 9 - (am_xp [.int a0, .int a1]).length) none) (ls' := [some (.int a0), some (.int a1)]) bf9_0 rfl)
theorem bx10 {w : am_Wd} {a0 : Nat} {a1 : Int32} : am_x 10 [.ref a0, .int a1] w = am_run 10 0 [some (.ref a0), some (.int a1), none, none] [] w :=
  congrArg (fun l => am_run 10 0 l [] w) (bnr (ls := am_xp [.ref a0, .int a1] ++ List.replicate (am_ml 10 - (am_xp [.ref a0, .int a1]).length) none) (ls' := [some (.ref a0), some (.int a1), none, none]) bf10_0 rfl)
theorem bx11 {w : am_Wd} {a0 : Int64} {a1 : Int32} : am_x 11 [.long a0, .int a1] w = am_run 11 0 [some (.long a0), none, some (.int a1)] [] w :=
  congrArg (fun l => am_run 11 0 l [] w) (bnr (ls := am_xp [.long a0, .int a1] ++ List.replicate (am_ml 11 - (am_xp [.long a0, .int a1]).length) none) (ls' := [some (.long a0), none, some (.int a1)]) bf11_0 rfl)
theorem bx12 {w : am_Wd}  : am_x 12 [] w = am_run 12 0 [] [] w :=
  congrArg (fun l => am_run 12 0 l [] w) (bnr (ls := am_xp [] ++ List.replicate (am_ml 12 - (am_xp []).length) none) (ls' := []) bf12_0 rfl)
theorem bx13 {w : am_Wd} {a0 : Int32} {a1 : Int32} : am_x 13 [.int a0, .int a1] w = am_run 13 0 [some (.int a0), some (.int a1), none, none] [] w :=
  congrArg (fun l => am_run 13 0 l [] w) (bnr (ls := am_xp [.int a0, .int a1] ++ List.replicate (am_ml 13 - (am_xp [.int a0, .int a1]).length) none) (ls' := [some (.int a0), some (.int a1), none, none]) bf13_0 rfl)
theorem bx14 {w : am_Wd} {a0 : Int64} {a1 : Int32} : am_x 14 [.long a0, .int a1] w = am_run 14 0 [some (.long a0), none, some (.int a1)] [] w :=
  congrArg (fun l => am_run 14 0 l [] w) (bnr (ls := am_xp [.long a0, .int a1] ++ List.replicate (am_ml 14 - (am_xp [.long a0, .int a1]).length) none) (ls' := [some (.long a0), none, some (.int a1)]) bf14_0 rfl)
theorem bx15 {w : am_Wd} {a0 : Int32} {a1 : Int32} : am_x 15 [.int a0, .int a1] w = am_run 15 0 [some (.int a0), some (.int a1)] [] w :=
  congrArg (fun l => am_run 15 0 l [] w) (bnr (ls := am_xp [.int a0, .int a1] ++ List.replicate (am_ml 15 - (am_xp [.int a0, .int a1]).length) none) (ls' := [some (.int a0), some (.int a1)]) bf15_0 rfl)
theorem bx16 {w : am_Wd} {a0 : Int32} {a1 : Int32} : am_x 16 [.int a0, .int a1] w = am_run 16 0 [some (.int a0), some (.int a1), none, none] [] w :=
  congrArg (fun l => am_run 16 0 l [] w) (bnr (ls := am_xp [.int a0, .int a1] ++ List.replicate (am_ml 16 - (am_xp [.int a0, .int a1]).length) none) (ls' := [some (.int a0), some (.int a1), none, none]) bf16_0 rfl)
theorem bx17 {w : am_Wd} {a0 : Nat} : am_x 17 [.ref a0] w = am_run 17 0 [some (.ref a0)] [] w :=
  congrArg (fun l => am_run 17 0 l [] w) (bnr (ls := am_xp [.ref a0] ++ List.replicate (am_ml 17 - (am_xp [.ref a0]).length) none) (ls' := [some (.ref a0)]) bf17_0 rfl)
theorem bx18 {w : am_Wd} {a0 : Nat} : am_x 18 [.ref a0] w = am_run 18 0 [some (.ref a0)] [] w :=
  congrArg (fun l => am_run 18 0 l [] w) (bnr (ls := am_xp [.ref a0] ++ List.replicate (am_ml 18 - (am_xp [.ref a0]).length) none) (ls' := [some (.ref a0)]) bf18_0 rfl)
theorem bx19 {w : am_Wd} {a0 : Int32} : am_x 19 [.int a0] w = am_run 19 0 [some (.int a0)] [] w :=
  congrArg (fun l => am_run 19 0 l [] w) (bnr (ls := am_xp [.int a0] ++ List.replicate (am_ml 19 - (am_xp [.int a0]).length) none) (ls' := [some (.int a0)]) bf19_0 rfl)
theorem bx20 {w : am_Wd} {a0 : Nat} {a1 : Int32} {a2 : Int32} {a3 : Int32} : am_x 20 [.ref a0, .int a1, .int a2, .int a3] w = am_run 20 0 [some (.ref a0), some (.int a1), some (.int a2), some (.int a3), none, none] [] w :=
  congrArg (fun l => am_run 20 0 l [] w) (bnr (ls := am_xp [.ref a0, .int a1, .int a2, .int a3] ++ List.replicate (am_ml 20 - (am_xp [.ref a0, .int a1, .int a2, .int a3]).length) none) (ls' := [some (.ref a0), some (.int a1), some (.int a2), some (.int a3), none, none]) bf20_0 rfl)
theorem bx21 {w : am_Wd} {a0 : Nat} {a1 : Int32} {a2 : Int32} : am_x 21 [.ref a0, .int a1, .int a2] w = am_run 21 0 [some (.ref a0), some (.int a1), some (.int a2)] [] w :=
  congrArg (fun l => am_run 21 0 l [] w) (bnr (ls := am_xp [.ref a0, .int a1, .int a2] ++ List.replicate (am_ml 21 - (am_xp [.ref a0, .int a1, .int a2]).length) none) (ls' := [some (.ref a0), some (.int a1), some (.int a2)]) bf21_0 rfl)
theorem bx22 {w : am_Wd} {a0 : Nat} {a1 : Int32} : am_x 22 [.ref a0, .int a1] w = am_run 22 0 [some (.ref a0), some (.int a1)] [] w :=
  congrArg (fun l => am_run 22 0 l [] w) (bnr (ls := am_xp [.ref a0, .int a1] ++ List.replicate (am_ml 22 - (am_xp [.ref a0, .int a1]).length) none) (ls' := [some (.ref a0), some (.int a1)]) bf22_0 rfl)
theorem bx23 {w : am_Wd} {a0 : Nat} {a1 : Int64} : am_x 23 [.ref a0, .long a1] w = am_run 23 0 [some (.ref a0), some (.long a1), none, none, none, none, none, none, none, none, none] [] w :=
  congrArg (fun l => am_run 23 0 l [] w) (bnr (ls := am_xp [.ref a0, .long a1] ++ List.replicate (am_ml 23 - (am_xp [.ref a0, .long a1]).length) none) (ls' := [some (.ref a0), some (.long a1), none, none, none, none, none, none, none, none, none]) bf23_0 rfl)
theorem bx24 {w : am_Wd} {a0 : Nat} : am_x 24 [.ref a0] w = am_run 24 0 [some (.ref a0)] [] w :=
  congrArg (fun l => am_run 24 0 l [] w) (bnr (ls := am_xp [.ref a0] ++ List.replicate (am_ml 24 - (am_xp [.ref a0]).length) none) (ls' := [some (.ref a0)]) bf24_0 rfl)
theorem bx25 {w : am_Wd} {a0 : Int64} {a1 : Int64} : am_x 25 [.long a0, .long a1] w = am_run 25 0 [some (.long a0), none, some (.long a1), none] [] w :=
  congrArg (fun l => am_run 25 0 l [] w) (bnr (ls := am_xp [.long a0, .long a1] ++ List.replicate (am_ml 25 - (am_xp [.long a0, .long a1]).length) none) (ls' := [some (.long a0), none, some (.long a1), none]) bf25_0 rfl)
theorem bx26 {w : am_Wd} {a0 : Int32} : am_x 26 [.int a0] w = am_run 26 0 [some (.int a0)] [] w :=
  congrArg (fun l => am_run 26 0 l [] w) (bnr (ls := am_xp [.int a0] ++ List.replicate (am_ml 26 - (am_xp [.int a0]).length) none) (ls' := [some (.int a0)]) bf26_0 rfl)
theorem bx27 {w : am_Wd} {a0 : Int32} : am_x 27 [.int a0] w = am_run 27 0 [some (.int a0)] [] w :=
  congrArg (fun l => am_run 27 0 l [] w) (bnr (ls := am_xp [.int a0] ++ List.replicate (am_ml 27 - (am_xp [.int a0]).length) none) (ls' := [some (.int a0)]) bf27_0 rfl)
theorem bx28 {w : am_Wd} {a0 : Int32} : am_x 28 [.int a0] w = am_run 28 0 [some (.int a0)] [] w :=
  congrArg (fun l => am_run 28 0 l [] w) (bnr (ls := am_xp [.int a0] ++ List.replicate (am_ml 28 - (am_xp [.int a0]).length) none) (ls' := [some (.int a0)]) bf28_0 rfl)
theorem bx29 {w : am_Wd} {a0 : Int32} : am_x 29 [.int a0] w = am_run 29 0 [some (.int a0)] [] w :=
  congrArg (fun l => am_run 29 0 l [] w) (bnr (ls := am_xp [.int a0] ++ List.replicate (am_ml 29 - (am_xp [.int a0]).length) none) (ls' := [some (.int a0)]) bf29_0 rfl)
theorem bx30 {w : am_Wd} {a0 : Int32} : am_x 30 [.int a0] w = am_run 30 0 [some (.int a0)] [] w :=
  congrArg (fun l => am_run 30 0 l [] w) (bnr (ls := am_xp [.int a0] ++ List.replicate (am_ml 30 - (am_xp [.int a0]).length) none) (ls' := [some (.int a0)]) bf30_0 rfl)
theorem bx31 {w : am_Wd} {a0 : Nat} {a1 : Int32} : am_x 31 [.ref a0, .int a1] w = am_run 31 0 [some (.ref a0), some (.int a1)] [] w :=
  congrArg (fun l => am_run 31 0 l [] w) (bnr (ls := am_xp [.ref a0, .int a1] ++ List.replicate (am_ml 31 - (am_xp [.ref a0, .int a1]).length) none) (ls' := [some (.ref a0), some (.int a1)]) bf31_0 rfl)
theorem bx32 {w : am_Wd} {a0 : Nat} {a1 : Nat} : am_x 32 [.ref a0, .ref a1] w = am_run 32 0 [some (.ref a0), some (.ref a1)] [] w :=
  congrArg (fun l => am_run 32 0 l [] w) (bnr (ls := am_xp [.ref a0, .ref a1] ++ List.replicate (am_ml 32 - (am_xp [.ref a0, .ref a1]).length) none) (ls' := [some (.ref a0), some (.ref a1)]) bf32_0 rfl)
theorem bx33 {w : am_Wd} {a0 : Nat} : am_x 33 [.ref a0] w = am_run 33 0 [some (.ref a0)] [] w :=
  congrArg (fun l => am_run 33 0 l [] w) (bnr (ls := am_xp [.ref a0] ++ List.replicate (am_ml 33 - (am_xp [.ref a0]).length) none) (ls' := [some (.ref a0)]) bf33_0 rfl)
theorem bx34 {w : am_Wd} {a0 : Int32} : am_x 34 [.int a0] w = am_run 34 0 [some (.int a0)] [] w :=
  congrArg (fun l => am_run 34 0 l [] w) (bnr (ls := am_xp [.int a0] ++ List.replicate (am_ml 34 - (am_xp [.int a0]).length) none) (ls' := [some (.int a0)]) bf34_0 rfl)
theorem bx35 {w : am_Wd} {a0 : Nat} : am_x 35 [.ref a0] w = am_run 35 0 [some (.ref a0)] [] w :=
  congrArg (fun l => am_run 35 0 l [] w) (bnr (ls := am_xp [.ref a0] ++ List.replicate (am_ml 35 - (am_xp [.ref a0]).length) none) (ls' := [some (.ref a0)]) bf35_0 rfl)
theorem bx36 {w : am_Wd} {a0 : Nat} : am_x 36 [.ref a0] w = am_run 36 0 [some (.ref a0)] [] w :=
  congrArg (fun l => am_run 36 0 l [] w) (bnr (ls := am_xp [.ref a0] ++ List.replicate (am_ml 36 - (am_xp [.ref a0]).length) none) (ls' := [some (.ref a0)]) bf36_0 rfl)
theorem bx37 {w : am_Wd} {a0 : Nat} : am_x 37 [.ref a0] w = am_run 37 0 [some (.ref a0), none, none, none, none, none] [] w :=
  congrArg (fun l => am_run 37 0 l [] w) (bnr (ls := am_xp [.ref a0] ++ List.replicate (am_ml 37 - (am_xp [.ref a0]).length) none) (ls' := [some (.ref a0), none, none, none, none, none]) bf37_0 rfl)
theorem bx38 {w : am_Wd} {a0 : Nat} : am_x 38 [.ref a0] w = am_run 38 0 [some (.ref a0)] [] w :=
  congrArg (fun l => am_run 38 0 l [] w) (bnr (ls := am_xp [.ref a0] ++ List.replicate (am_ml 38 - (am_xp [.ref a0]).length) none) (ls' := [some (.ref a0)]) bf38_0 rfl)
theorem bx39 {w : am_Wd} {a0 : Int32} {a1 : Int32} {a2 : Int32} : am_x 39 [.int a0, .int a1, .int a2] w = am_run 39 0 [some (.int a0), some (.int a1), some (.int a2)] [] w :=
  congrArg (fun l => am_run 39 0 l [] w) (bnr (ls := am_xp [.int a0, .int a1, .int a2] ++ List.replicate (am_ml 39 - (am_xp [.int a0, .int a1, .int a2]).length) none) (ls' := [some (.int a0), some (.int a1), some (.int a2)]) bf39_0 rfl)
theorem bx40 {w : am_Wd} {a0 : Nat} {a1 : Int32} {a2 : Int32} : am_x 40 [.ref a0, .int a1, .int a2] w = am_run 40 0 [some (.ref a0), some (.int a1), some (.int a2)] [] w :=
  congrArg (fun l => am_run 40 0 l [] w) (bnr (ls := am_xp [.ref a0, .int a1, .int a2] ++ List.replicate (am_ml 40 - (am_xp [.ref a0, .int a1, .int a2]).length) none) (ls' := [some (.ref a0), some (.int a1), some (.int a2)]) bf40_0 rfl)
theorem bx41 {w : am_Wd} {a0 : Int32} : am_x 41 [.int a0] w = am_run 41 0 [some (.int a0)] [] w :=
  congrArg (fun l => am_run 41 0 l [] w) (bnr (ls := am_xp [.int a0] ++ List.replicate (am_ml 41 - (am_xp [.int a0]).length) none) (ls' := [some (.int a0)]) bf41_0 rfl)
theorem bx42 {w : am_Wd} {a0 : Nat} {a1 : Int32} {a2 : Int32} : am_x 42 [.ref a0, .int a1, .int a2] w = am_run 42 0 [some (.ref a0), some (.int a1), some (.int a2)] [] w :=
  congrArg (fun l => am_run 42 0 l [] w) (bnr (ls := am_xp [.ref a0, .int a1, .int a2] ++ List.replicate (am_ml 42 - (am_xp [.ref a0, .int a1, .int a2]).length) none) (ls' := [some (.ref a0), some (.int a1), some (.int a2)]) bf42_0 rfl)
theorem bx43 {w : am_Wd} {a0 : Int32} {a1 : Int32} : am_x 43 [.int a0, .int a1] w = am_run 43 0 [some (.int a0), some (.int a1)] [] w :=
  congrArg (fun l => am_run 43 0 l [] w) (bnr (ls := am_xp [.int a0, .int a1] ++ List.replicate (am_ml 43 - (am_xp [.int a0, .int a1]).length) none) (ls' := [some (.int a0), some (.int a1)]) bf43_0 rfl)
theorem bx44 {w : am_Wd} {a0 : Nat} : am_x 44 [.ref a0] w = am_run 44 0 [some (.ref a0), none, none, none, none, none] [] w :=
  congrArg (fun l => am_run 44 0 l [] w) (bnr (ls := am_xp [.ref a0] ++ List.replicate (am_ml 44 - (am_xp [.ref a0]).length) none) (ls' := [some (.ref a0), none, none, none, none, none]) bf44_0 rfl)
theorem bx45 {w : am_Wd} {a0 : Nat} : am_x 45 [.ref a0] w = am_run 45 0 [some (.ref a0), none] [] w :=
  congrArg (fun l => am_run 45 0 l [] w) (bnr (ls := am_xp [.ref a0] ++ List.replicate (am_ml 45 - (am_xp [.ref a0]).length) none) (ls' := [some (.ref a0), none]) bf45_0 rfl)
theorem bx46 {w : am_Wd} {a0 : Nat} {a1 : Nat} : am_x 46 [.ref a0, .ref a1] w = am_run 46 0 [some (.ref a0), some (.ref a1)] [] w :=
  congrArg (fun l => am_run 46 0 l [] w) (bnr (ls := am_xp [.ref a0, .ref a1] ++ List.replicate (am_ml 46 - (am_xp [.ref a0, .ref a1]).length) none) (ls' := [some (.ref a0), some (.ref a1)]) bf46_0 rfl)
theorem bx47 {w : am_Wd} {a0 : Nat} : am_x 47 [.ref a0] w = am_run 47 0 [some (.ref a0)] [] w :=
  congrArg (fun l => am_run 47 0 l [] w) (bnr (ls := am_xp [.ref a0] ++ List.replicate (am_ml 47 - (am_xp [.ref a0]).length) none) (ls' := [some (.ref a0)]) bf47_0 rfl)
theorem bx48 {w : am_Wd} {a0 : Nat} {a1 : Nat} {a2 : Int32} : am_x 48 [.ref a0, .ref a1, .int a2] w = am_run 48 0 [none, some (.ref a1), some (.int a2), none, none, none] [] w :=
  congrArg (fun l => am_run 48 0 l [] w) (bnr (ls := am_xp [.ref a0, .ref a1, .int a2] ++ List.replicate (am_ml 48 - (am_xp [.ref a0, .ref a1, .int a2]).length) none) (ls' := [none, some (.ref a1), some (.int a2), none, none, none]) bf48_0 rfl)
theorem bx49 {w : am_Wd} {a0 : Nat} {a1 : Nat} : am_x 49 [.ref a0, .ref a1] w = am_run 49 0 [none, some (.ref a1), none, none] [] w :=
  congrArg (fun l => am_run 49 0 l [] w) (bnr (ls := am_xp [.ref a0, .ref a1] ++ List.replicate (am_ml 49 - (am_xp [.ref a0, .ref a1]).length) none) (ls' := [none, some (.ref a1), none, none]) bf49_0 rfl)
theorem bx50 {w : am_Wd} {a0 : Int64} : am_x 50 [.long a0] w = am_run 50 0 [some (.long a0), none] [] w :=
  congrArg (fun l => am_run 50 0 l [] w) (bnr (ls := am_xp [.long a0] ++ List.replicate (am_ml 50 - (am_xp [.long a0]).length) none) (ls' := [some (.long a0), none]) bf50_0 rfl)
theorem bx51 {w : am_Wd} {a0 : Nat} : am_x 51 [.ref a0] w = am_run 51 0 [some (.ref a0)] [] w :=
  congrArg (fun l => am_run 51 0 l [] w) (bnr (ls := am_xp [.ref a0] ++ List.replicate (am_ml 51 - (am_xp [.ref a0]).length) none) (ls' := [some (.ref a0)]) bf51_0 rfl)
theorem bx52 {w : am_Wd} {a0 : Nat} : am_x 52 [.ref a0] w = am_run 52 0 [some (.ref a0)] [] w :=
  congrArg (fun l => am_run 52 0 l [] w) (bnr (ls := am_xp [.ref a0] ++ List.replicate (am_ml 52 - (am_xp [.ref a0]).length) none) (ls' := [some (.ref a0)]) bf52_0 rfl)
theorem bx53 {w : am_Wd} {a0 : Nat} {a1 : Nat} : am_x 53 [.ref a0, .ref a1] w = am_run 53 0 [some (.ref a0), some (.ref a1)] [] w :=
  congrArg (fun l => am_run 53 0 l [] w) (bnr (ls := am_xp [.ref a0, .ref a1] ++ List.replicate (am_ml 53 - (am_xp [.ref a0, .ref a1]).length) none) (ls' := [some (.ref a0), some (.ref a1)]) bf53_0 rfl)
theorem bx54 {w : am_Wd} {a0 : Nat} {a1 : Int32} : am_x 54 [.ref a0, .int a1] w = am_run 54 0 [some (.ref a0), some (.int a1)] [] w :=
  congrArg (fun l => am_run 54 0 l [] w) (bnr (ls := am_xp [.ref a0, .int a1] ++ List.replicate (am_ml 54 - (am_xp [.ref a0, .int a1]).length) none) (ls' := [some (.ref a0), some (.int a1)]) bf54_0 rfl)
theorem bx55 {w : am_Wd} {a0 : Nat} {a1 : Int32} : am_x 55 [.ref a0, .int a1] w = am_run 55 0 [some (.ref a0), some (.int a1), none, none] [] w :=
  congrArg (fun l => am_run 55 0 l [] w) (bnr (ls := am_xp [.ref a0, .int a1] ++ List.replicate (am_ml 55 - (am_xp [.ref a0, .int a1]).length) none) (ls' := [some (.ref a0), some (.int a1), none, none]) bf55_0 rfl)
theorem bx56 {w : am_Wd} {a0 : Nat} : am_x 56 [.ref a0] w = am_run 56 0 [some (.ref a0)] [] w :=
  congrArg (fun l => am_run 56 0 l [] w) (bnr (ls := am_xp [.ref a0] ++ List.replicate (am_ml 56 - (am_xp [.ref a0]).length) none) (ls' := [some (.ref a0)]) bf56_0 rfl)
theorem bx57 {w : am_Wd} {a0 : Nat} : am_x 57 [.ref a0] w = am_run 57 0 [some (.ref a0)] [] w :=
  congrArg (fun l => am_run 57 0 l [] w) (bnr (ls := am_xp [.ref a0] ++ List.replicate (am_ml 57 - (am_xp [.ref a0]).length) none) (ls' := [some (.ref a0)]) bf57_0 rfl)
theorem bx58 {w : am_Wd} {a0 : Int32} {a1 : Int32} {a2 : Nat} : am_x 58 [.int a0, .int a1, .ref a2] w = am_run 58 0 [some (.int a0), some (.int a1), some (.ref a2)] [] w :=
  congrArg (fun l => am_run 58 0 l [] w) (bnr (ls := am_xp [.int a0, .int a1, .ref a2] ++ List.replicate (am_ml 58 - (am_xp [.int a0, .int a1, .ref a2]).length) none) (ls' := [some (.int a0), some (.int a1), some (.ref a2)]) bf58_0 rfl)
theorem bx72 {w : am_Wd} {a0 : Nat} : am_x 72 [.ref a0] w = am_run 72 0 [some (.ref a0), none, none] [] w :=
  congrArg (fun l => am_run 72 0 l [] w) (bnr (ls := am_xp [.ref a0] ++ List.replicate (am_ml 72 - (am_xp [.ref a0]).length) none) (ls' := [some (.ref a0), none, none]) bf72_0 rfl)
theorem bx73 {w : am_Wd} {a0 : Nat} {a1 : Int32} : am_x 73 [.ref a0, .int a1] w = am_run 73 0 [some (.ref a0), some (.int a1)] [] w :=
  congrArg (fun l => am_run 73 0 l [] w) (bnr (ls := am_xp [.ref a0, .int a1] ++ List.replicate (am_ml 73 - (am_xp [.ref a0, .int a1]).length) none) (ls' := [some (.ref a0), some (.int a1)]) bf73_0 rfl)
theorem bx74 {w : am_Wd} {a0 : Nat} {a1 : Int32} {a2 : Int32} {a3 : Nat} : am_x 74 [.ref a0, .int a1, .int a2, .ref a3] w = am_run 74 0 [some (.ref a0), some (.int a1), some (.int a2), some (.ref a3), none, none] [] w :=
  congrArg (fun l => am_run 74 0 l [] w) (bnr (ls := am_xp [.ref a0, .int a1, .int a2, .ref a3] ++ List.replicate (am_ml 74 - (am_xp [.ref a0, .int a1, .int a2, .ref a3]).length) none) (ls' := [some (.ref a0), some (.int a1), some (.int a2), some (.ref a3), none, none]) bf74_0 rfl)
theorem bx75 {w : am_Wd} {a0 : Nat} {a1 : Int32} {a2 : Int32} {a3 : Nat} : am_x 75 [.ref a0, .int a1, .int a2, .ref a3] w = am_run 75 0 [some (.ref a0), some (.int a1), some (.int a2), some (.ref a3), none, none, none] [] w :=
  congrArg (fun l => am_run 75 0 l [] w) (bnr (ls := am_xp [.ref a0, .int a1, .int a2, .ref a3] ++ List.replicate (am_ml 75 - (am_xp [.ref a0, .int a1, .int a2, .ref a3]).length) none) (ls' := [some (.ref a0), some (.int a1), some (.int a2), some (.ref a3), none, none, none]) bf75_0 rfl)
theorem bx76 {w : am_Wd} {a0 : Int32} {a1 : Int32} : am_x 76 [.int a0, .int a1] w = am_run 76 0 [some (.int a0), some (.int a1), none, none] [] w :=
  congrArg (fun l => am_run 76 0 l [] w) (bnr (ls := am_xp [.int a0, .int a1] ++ List.replicate (am_ml 76 - (am_xp [.int a0, .int a1]).length) none) (ls' := [some (.int a0), some (.int a1), none, none]) bf76_0 rfl)
theorem bx77 {w : am_Wd} {a0 : Nat} {a1 : Int32} : am_x 77 [.ref a0, .int a1] w = am_run 77 0 [some (.ref a0), some (.int a1), none, none] [] w :=
  congrArg (fun l => am_run 77 0 l [] w) (bnr (ls := am_xp [.ref a0, .int a1] ++ List.replicate (am_ml 77 - (am_xp [.ref a0, .int a1]).length) none) (ls' := [some (.ref a0), some (.int a1), none, none]) bf77_0 rfl)
theorem bx78 {w : am_Wd} {a0 : Nat} : am_x 78 [.ref a0] w = am_run 78 0 [some (.ref a0), none] [] w :=
  congrArg (fun l => am_run 78 0 l [] w) (bnr (ls := am_xp [.ref a0] ++ List.replicate (am_ml 78 - (am_xp [.ref a0]).length) none) (ls' := [some (.ref a0), none]) bf78_0 rfl)
theorem bx79 {w : am_Wd} {a0 : Nat} {a1 : Int32} : am_x 79 [.ref a0, .int a1] w = am_run 79 0 [some (.ref a0), some (.int a1), none] [] w :=
  congrArg (fun l => am_run 79 0 l [] w) (bnr (ls := am_xp [.ref a0, .int a1] ++ List.replicate (am_ml 79 - (am_xp [.ref a0, .int a1]).length) none) (ls' := [some (.ref a0), some (.int a1), none]) bf79_0 rfl)
theorem bx80 {w : am_Wd} {a0 : Nat} : am_x 80 [.ref a0] w = am_run 80 0 [some (.ref a0)] [] w :=
  congrArg (fun l => am_run 80 0 l [] w) (bnr (ls := am_xp [.ref a0] ++ List.replicate (am_ml 80 - (am_xp [.ref a0]).length) none) (ls' := [some (.ref a0)]) bf80_0 rfl)
theorem bx81 {w : am_Wd} {a0 : Nat} {a1 : Int32} {a2 : Int32} : am_x 81 [.ref a0, .int a1, .int a2] w = am_run 81 0 [some (.ref a0), some (.int a1), some (.int a2)] [] w :=
  congrArg (fun l => am_run 81 0 l [] w) (bnr (ls := am_xp [.ref a0, .int a1, .int a2] ++ List.replicate (am_ml 81 - (am_xp [.ref a0, .int a1, .int a2]).length) none) (ls' := [some (.ref a0), some (.int a1), some (.int a2)]) bf81_0 rfl)
theorem bx82 {w : am_Wd} {a0 : Nat} {a1 : Int32} {a2 : Int32} {a3 : Int32} : am_x 82 [.ref a0, .int a1, .int a2, .int a3] w = am_run 82 0 [some (.ref a0), some (.int a1), some (.int a2), some (.int a3), none] [] w :=
  congrArg (fun l => am_run 82 0 l [] w) (bnr (ls := am_xp [.ref a0, .int a1, .int a2, .int a3] ++ List.replicate (am_ml 82 - (am_xp [.ref a0, .int a1, .int a2, .int a3]).length) none) (ls' := [some (.ref a0), some (.int a1), some (.int a2), some (.int a3), none]) bf82_0 rfl)
theorem bx83 {w : am_Wd} {a0 : Nat} : am_x 83 [.ref a0] w = am_run 83 0 [some (.ref a0)] [] w :=
  congrArg (fun l => am_run 83 0 l [] w) (bnr (ls := am_xp [.ref a0] ++ List.replicate (am_ml 83 - (am_xp [.ref a0]).length) none) (ls' := [some (.ref a0)]) bf83_0 rfl)
theorem bx84 {w : am_Wd} {a0 : Nat} : am_x 84 [.ref a0] w = am_run 84 0 [some (.ref a0)] [] w :=
  congrArg (fun l => am_run 84 0 l [] w) (bnr (ls := am_xp [.ref a0] ++ List.replicate (am_ml 84 - (am_xp [.ref a0]).length) none) (ls' := [some (.ref a0)]) bf84_0 rfl)
theorem bx85 {w : am_Wd} {a0 : Nat} : am_x 85 [.ref a0] w = am_run 85 0 [some (.ref a0)] [] w :=
  congrArg (fun l => am_run 85 0 l [] w) (bnr (ls := am_xp [.ref a0] ++ List.replicate (am_ml 85 - (am_xp [.ref a0]).length) none) (ls' := [some (.ref a0)]) bf85_0 rfl)
theorem bx86 {w : am_Wd} {a0 : Nat} {a1 : Nat} : am_x 86 [.ref a0, .ref a1] w = am_run 86 0 [some (.ref a0), some (.ref a1), none, none] [] w :=
  congrArg (fun l => am_run 86 0 l [] w) (bnr (ls := am_xp [.ref a0, .ref a1] ++ List.replicate (am_ml 86 - (am_xp [.ref a0, .ref a1]).length) none) (ls' := [some (.ref a0), some (.ref a1), none, none]) bf86_0 rfl)
theorem bx87 {w : am_Wd} {a0 : Nat} {a1 : Int32} {a2 : Int32} : am_x 87 [.ref a0, .int a1, .int a2] w = am_run 87 0 [some (.ref a0), some (.int a1), some (.int a2), none, none, none] [] w :=
  congrArg (fun l => am_run 87 0 l [] w) (bnr (ls := am_xp [.ref a0, .int a1, .int a2] ++ List.replicate (am_ml 87 - (am_xp [.ref a0, .int a1, .int a2]).length) none) (ls' := [some (.ref a0), some (.int a1), some (.int a2), none, none, none]) bf87_0 rfl)
theorem bx88 {w : am_Wd} {a0 : Int64} : am_x 88 [.long a0] w = am_run 88 0 [some (.long a0), none, none] [] w :=
  congrArg (fun l => am_run 88 0 l [] w) (bnr (ls := am_xp [.long a0] ++ List.replicate (am_ml 88 - (am_xp [.long a0]).length) none) (ls' := [some (.long a0), none, none]) bf88_0 rfl)
theorem bx89 {w : am_Wd} {a0 : Nat} : am_x 89 [.ref a0] w = am_run 89 0 [some (.ref a0)] [] w :=
  congrArg (fun l => am_run 89 0 l [] w) (bnr (ls := am_xp [.ref a0] ++ List.replicate (am_ml 89 - (am_xp [.ref a0]).length) none) (ls' := [some (.ref a0)]) bf89_0 rfl)
theorem bx90 {w : am_Wd} {a0 : Nat} {a1 : Int32} {a2 : Int32} {a3 : Int32} : am_x 90 [.ref a0, .int a1, .int a2, .int a3] w = am_run 90 0 [some (.ref a0), some (.int a1), some (.int a2), some (.int a3)] [] w :=
  congrArg (fun l => am_run 90 0 l [] w) (bnr (ls := am_xp [.ref a0, .int a1, .int a2, .int a3] ++ List.replicate (am_ml 90 - (am_xp [.ref a0, .int a1, .int a2, .int a3]).length) none) (ls' := [some (.ref a0), some (.int a1), some (.int a2), some (.int a3)]) bf90_0 rfl)
theorem bx91 {w : am_Wd} {a0 : Nat} {a1 : Int32} : am_x 91 [.ref a0, .int a1] w = am_run 91 0 [some (.ref a0), some (.int a1), none] [] w :=
  congrArg (fun l => am_run 91 0 l [] w) (bnr (ls := am_xp [.ref a0, .int a1] ++ List.replicate (am_ml 91 - (am_xp [.ref a0, .int a1]).length) none) (ls' := [some (.ref a0), some (.int a1), none]) bf91_0 rfl)
theorem bx92 {w : am_Wd} {a0 : Int32} {a1 : Int32} {a2 : Int32} : am_x 92 [.int a0, .int a1, .int a2] w = am_run 92 0 [some (.int a0), some (.int a1), some (.int a2)] [] w :=
  congrArg (fun l => am_run 92 0 l [] w) (bnr (ls := am_xp [.int a0, .int a1, .int a2] ++ List.replicate (am_ml 92 - (am_xp [.int a0, .int a1, .int a2]).length) none) (ls' := [some (.int a0), some (.int a1), some (.int a2)]) bf92_0 rfl)
theorem bx93 {w : am_Wd} {a0 : Nat} : am_x 93 [.ref a0] w = am_run 93 0 [some (.ref a0), none] [] w :=
  congrArg (fun l => am_run 93 0 l [] w) (bnr (ls := am_xp [.ref a0] ++ List.replicate (am_ml 93 - (am_xp [.ref a0]).length) none) (ls' := [some (.ref a0), none]) bf93_0 rfl)
theorem bx94 {w : am_Wd} {a0 : Nat} {a1 : Int32} : am_x 94 [.ref a0, .int a1] w = am_run 94 0 [some (.ref a0), some (.int a1), none, none] [] w :=
  congrArg (fun l => am_run 94 0 l [] w) (bnr (ls := am_xp [.ref a0, .int a1] ++ List.replicate (am_ml 94 - (am_xp [.ref a0, .int a1]).length) none) (ls' := [some (.ref a0), some (.int a1), none, none]) bf94_0 rfl)
theorem bx95 {w : am_Wd} {a0 : Nat} : am_x 95 [.ref a0] w = am_run 95 0 [some (.ref a0), none] [] w :=
  congrArg (fun l => am_run 95 0 l [] w) (bnr (ls := am_xp [.ref a0] ++ List.replicate (am_ml 95 - (am_xp [.ref a0]).length) none) (ls' := [some (.ref a0), none]) bf95_0 rfl)
theorem bx96 {w : am_Wd} {a0 : Nat} {a1 : Int32} {a2 : Int32} : am_x 96 [.ref a0, .int a1, .int a2] w = am_run 96 0 [some (.ref a0), some (.int a1), some (.int a2)] [] w :=
  congrArg (fun l => am_run 96 0 l [] w) (bnr (ls := am_xp [.ref a0, .int a1, .int a2] ++ List.replicate (am_ml 96 - (am_xp [.ref a0, .int a1, .int a2]).length) none) (ls' := [some (.ref a0), some (.int a1), some (.int a2)]) bf96_0 rfl)
theorem bx97 {w : am_Wd} {a0 : Int32} : am_x 97 [.int a0] w = am_run 97 0 [some (.int a0)] [] w :=
  congrArg (fun l => am_run 97 0 l [] w) (bnr (ls := am_xp [.int a0] ++ List.replicate (am_ml 97 - (am_xp [.int a0]).length) none) (ls' := [some (.int a0)]) bf97_0 rfl)
theorem bx98 {w : am_Wd} {a0 : Int32} : am_x 98 [.int a0] w = am_run 98 0 [some (.int a0)] [] w :=
  congrArg (fun l => am_run 98 0 l [] w) (bnr (ls := am_xp [.int a0] ++ List.replicate (am_ml 98 - (am_xp [.int a0]).length) none) (ls' := [some (.int a0)]) bf98_0 rfl)
theorem bx99 {w : am_Wd} {a0 : Nat} {a1 : Int32} : am_x 99 [.ref a0, .int a1] w = am_run 99 0 [some (.ref a0), some (.int a1)] [] w :=
  congrArg (fun l => am_run 99 0 l [] w) (bnr (ls := am_xp [.ref a0, .int a1] ++ List.replicate (am_ml 99 - (am_xp [.ref a0, .int a1]).length) none) (ls' := [some (.ref a0), some (.int a1)]) bf99_0 rfl)
theorem bx100 {w : am_Wd} {a0 : Int32} {a1 : Int32} : am_x 100 [.int a0, .int a1] w = am_run 100 0 [some (.int a0), some (.int a1), none, none] [] w :=
  congrArg (fun l => am_run 100 0 l [] w) (bnr (ls := am_xp [.int a0, .int a1] ++ List.replicate (am_ml 100 - (am_xp [.int a0, .int a1]).length) none) (ls' := [some (.int a0), some (.int a1), none, none]) bf100_0 rfl)
theorem bx101 {w : am_Wd} {a0 : Nat} {a1 : Int32} {a2 : Int32} : am_x 101 [.ref a0, .int a1, .int a2] w = am_run 101 0 [some (.ref a0), some (.int a1), some (.int a2)] [] w :=
  congrArg (fun l => am_run 101 0 l [] w) (bnr (ls := am_xp [.ref a0, .int a1, .int a2] ++ List.replicate (am_ml 101 - (am_xp [.ref a0, .int a1, .int a2]).length) none) (ls' := [some (.ref a0), some (.int a1), some (.int a2)]) bf101_0 rfl)
theorem bx102 {w : am_Wd} {a0 : Nat} {a1 : Nat} : am_x 102 [.ref a0, .ref a1] w = am_run 102 0 [some (.ref a0), some (.ref a1)] [] w :=
  congrArg (fun l => am_run 102 0 l [] w) (bnr (ls := am_xp [.ref a0, .ref a1] ++ List.replicate (am_ml 102 - (am_xp [.ref a0, .ref a1]).length) none) (ls' := [some (.ref a0), some (.ref a1)]) bf102_0 rfl)
theorem bx103 {w : am_Wd} {a0 : Nat} : am_x 103 [.ref a0] w = am_run 103 0 [some (.ref a0), none, none] [] w :=
  congrArg (fun l => am_run 103 0 l [] w) (bnr (ls := am_xp [.ref a0] ++ List.replicate (am_ml 103 - (am_xp [.ref a0]).length) none) (ls' := [some (.ref a0), none, none]) bf103_0 rfl)
theorem bx104 {w : am_Wd} {a0 : Nat} : am_x 104 [.ref a0] w = am_run 104 0 [some (.ref a0)] [] w :=
  congrArg (fun l => am_run 104 0 l [] w) (bnr (ls := am_xp [.ref a0] ++ List.replicate (am_ml 104 - (am_xp [.ref a0]).length) none) (ls' := [some (.ref a0)]) bf104_0 rfl)
theorem bx105 {w : am_Wd} {a0 : Nat} : am_x 105 [.ref a0] w = am_run 105 0 [some (.ref a0)] [] w :=
  congrArg (fun l => am_run 105 0 l [] w) (bnr (ls := am_xp [.ref a0] ++ List.replicate (am_ml 105 - (am_xp [.ref a0]).length) none) (ls' := [some (.ref a0)]) bf105_0 rfl)
theorem bx106 {w : am_Wd} {a0 : Nat} : am_x 106 [.ref a0] w = am_run 106 0 [some (.ref a0)] [] w :=
  congrArg (fun l => am_run 106 0 l [] w) (bnr (ls := am_xp [.ref a0] ++ List.replicate (am_ml 106 - (am_xp [.ref a0]).length) none) (ls' := [some (.ref a0)]) bf106_0 rfl)
theorem bx107 {w : am_Wd} {a0 : Int32} {a1 : Int32} : am_x 107 [.int a0, .int a1] w = am_run 107 0 [some (.int a0), some (.int a1)] [] w :=
  congrArg (fun l => am_run 107 0 l [] w) (bnr (ls := am_xp [.int a0, .int a1] ++ List.replicate (am_ml 107 - (am_xp [.int a0, .int a1]).length) none) (ls' := [some (.int a0), some (.int a1)]) bf107_0 rfl)
theorem bx118 {w : am_Wd} {a0 : Nat} : am_x 118 [.ref a0] w = am_run 118 0 [some (.ref a0), none] [] w :=
  congrArg (fun l => am_run 118 0 l [] w) (bnr (ls := am_xp [.ref a0] ++ List.replicate (am_ml 118 - (am_xp [.ref a0]).length) none) (ls' := [some (.ref a0), none]) bf118_0 rfl)
theorem bx119 {w : am_Wd} {a0 : Nat} {a1 : Int32} {a2 : Nat} : am_x 119 [.ref a0, .int a1, .ref a2] w = am_run 119 0 [some (.ref a0), some (.int a1), some (.ref a2), none] [] w :=
  congrArg (fun l => am_run 119 0 l [] w) (bnr (ls := am_xp [.ref a0, .int a1, .ref a2] ++ List.replicate (am_ml 119 - (am_xp [.ref a0, .int a1, .ref a2]).length) none) (ls' := [some (.ref a0), some (.int a1), some (.ref a2), none]) bf119_0 rfl)
theorem bx120 {w : am_Wd} {a0 : Nat} {a1 : Int32} {a2 : Nat} : am_x 120 [.ref a0, .int a1, .ref a2] w = am_run 120 0 [some (.ref a0), some (.int a1), some (.ref a2), none] [] w :=
  congrArg (fun l => am_run 120 0 l [] w) (bnr (ls := am_xp [.ref a0, .int a1, .ref a2] ++ List.replicate (am_ml 120 - (am_xp [.ref a0, .int a1, .ref a2]).length) none) (ls' := [some (.ref a0), some (.int a1), some (.ref a2), none]) bf120_0 rfl)
theorem bx121 {w : am_Wd} {a0 : Nat} {a1 : Int32} {a2 : Nat} : am_x 121 [.ref a0, .int a1, .ref a2] w = am_run 121 0 [some (.ref a0), some (.int a1), some (.ref a2), none, none] [] w :=
  congrArg (fun l => am_run 121 0 l [] w) (bnr (ls := am_xp [.ref a0, .int a1, .ref a2] ++ List.replicate (am_ml 121 - (am_xp [.ref a0, .int a1, .ref a2]).length) none) (ls' := [some (.ref a0), some (.int a1), some (.ref a2), none, none]) bf121_0 rfl)
theorem bx122 {w : am_Wd} {a0 : Nat} {a1 : Int32} {a2 : Nat} : am_x 122 [.ref a0, .int a1, .ref a2] w = am_run 122 0 [some (.ref a0), some (.int a1), some (.ref a2), none, none] [] w :=
  congrArg (fun l => am_run 122 0 l [] w) (bnr (ls := am_xp [.ref a0, .int a1, .ref a2] ++ List.replicate (am_ml 122 - (am_xp [.ref a0, .int a1, .ref a2]).length) none) (ls' := [some (.ref a0), some (.int a1), some (.ref a2), none, none]) bf122_0 rfl)
theorem bx123 {w : am_Wd} {a0 : Nat} {a1 : Int32} {a2 : Int32} {a3 : Int32} {a4 : Int32} : am_x 123 [.ref a0, .int a1, .int a2, .int a3, .int a4] w = am_run 123 0 [some (.ref a0), some (.int a1), some (.int a2), some (.int a3), some (.int a4), none] [] w :=
  congrArg (fun l => am_run 123 0 l [] w) (bnr (ls := am_xp [.ref a0, .int a1, .int a2, .int a3, .int a4] ++ List.replicate (am_ml 123 - (am_xp [.ref a0, .int a1, .int a2, .int a3, .int a4]).length) none) (ls' := [some (.ref a0), some (.int a1), some (.int a2), some (.int a3), some (.int a4), none]) bf123_0 rfl)
theorem bx124 {w : am_Wd} {a0 : Nat} {a1 : Int32} {a2 : Int32} : am_x 124 [.ref a0, .int a1, .int a2] w = am_run 124 0 [some (.ref a0), some (.int a1), some (.int a2), none] [] w :=
  congrArg (fun l => am_run 124 0 l [] w) (bnr (ls := am_xp [.ref a0, .int a1, .int a2] ++ List.replicate (am_ml 124 - (am_xp [.ref a0, .int a1, .int a2]).length) none) (ls' := [some (.ref a0), some (.int a1), some (.int a2), none]) bf124_0 rfl)
theorem bx125 {w : am_Wd} {a0 : Nat} {a1 : Int32} {a2 : Int32} : am_x 125 [.ref a0, .int a1, .int a2] w = am_run 125 0 [some (.ref a0), some (.int a1), some (.int a2), none] [] w :=
  congrArg (fun l => am_run 125 0 l [] w) (bnr (ls := am_xp [.ref a0, .int a1, .int a2] ++ List.replicate (am_ml 125 - (am_xp [.ref a0, .int a1, .int a2]).length) none) (ls' := [some (.ref a0), some (.int a1), some (.int a2), none]) bf125_0 rfl)
theorem bx126 {w : am_Wd} {a0 : Nat} {a1 : Int32} {a2 : Int32} {a3 : Int32} : am_x 126 [.ref a0, .int a1, .int a2, .int a3] w = am_run 126 0 [some (.ref a0), some (.int a1), some (.int a2), some (.int a3), none] [] w :=
  congrArg (fun l => am_run 126 0 l [] w) (bnr (ls := am_xp [.ref a0, .int a1, .int a2, .int a3] ++ List.replicate (am_ml 126 - (am_xp [.ref a0, .int a1, .int a2, .int a3]).length) none) (ls' := [some (.ref a0), some (.int a1), some (.int a2), some (.int a3), none]) bf126_0 rfl)
theorem bx127 {w : am_Wd} {a0 : Nat} {a1 : Int32} {a2 : Int32} {a3 : Int32} {a4 : Int32} : am_x 127 [.ref a0, .int a1, .int a2, .int a3, .int a4] w = am_run 127 0 [some (.ref a0), some (.int a1), some (.int a2), some (.int a3), some (.int a4)] [] w :=
  congrArg (fun l => am_run 127 0 l [] w) (bnr (ls := am_xp [.ref a0, .int a1, .int a2, .int a3, .int a4] ++ List.replicate (am_ml 127 - (am_xp [.ref a0, .int a1, .int a2, .int a3, .int a4]).length) none) (ls' := [some (.ref a0), some (.int a1), some (.int a2), some (.int a3), some (.int a4)]) bf127_0 rfl)
theorem bx128 {w : am_Wd} {a0 : Nat} : am_x 128 [.ref a0] w = am_run 128 0 [some (.ref a0)] [] w :=
  congrArg (fun l => am_run 128 0 l [] w) (bnr (ls := am_xp [.ref a0] ++ List.replicate (am_ml 128 - (am_xp [.ref a0]).length) none) (ls' := [some (.ref a0)]) bf128_0 rfl)
theorem bx129 {w : am_Wd} {a0 : Nat} : am_x 129 [.ref a0] w = am_run 129 0 [some (.ref a0)] [] w :=
  congrArg (fun l => am_run 129 0 l [] w) (bnr (ls := am_xp [.ref a0] ++ List.replicate (am_ml 129 - (am_xp [.ref a0]).length) none) (ls' := [some (.ref a0)]) bf129_0 rfl)
theorem bx130 {w : am_Wd} {a0 : Nat} : am_x 130 [.ref a0] w = am_run 130 0 [some (.ref a0), none] [] w :=
  congrArg (fun l => am_run 130 0 l [] w) (bnr (ls := am_xp [.ref a0] ++ List.replicate (am_ml 130 - (am_xp [.ref a0]).length) none) (ls' := [some (.ref a0), none]) bf130_0 rfl)
theorem bx131 {w : am_Wd} {a0 : Nat} {a1 : Nat} : am_x 131 [.ref a0, .ref a1] w = am_run 131 0 [some (.ref a0), some (.ref a1), none, none, none, none] [] w :=
  congrArg (fun l => am_run 131 0 l [] w) (bnr (ls := am_xp [.ref a0, .ref a1] ++ List.replicate (am_ml 131 - (am_xp [.ref a0, .ref a1]).length) none) (ls' := [some (.ref a0), some (.ref a1), none, none, none, none]) bf131_0 rfl)
theorem bx132 {w : am_Wd} {a0 : Nat} {a1 : Int32} : am_x 132 [.ref a0, .int a1] w = am_run 132 0 [some (.ref a0), some (.int a1), none, none, none, none, none, none] [] w :=
  congrArg (fun l => am_run 132 0 l [] w) (bnr (ls := am_xp [.ref a0, .int a1] ++ List.replicate (am_ml 132 - (am_xp [.ref a0, .int a1]).length) none) (ls' := [some (.ref a0), some (.int a1), none, none, none, none, none, none]) bf132_0 rfl)
theorem bx133 {w : am_Wd} {a0 : Nat} {a1 : Int32} {a2 : Int32} : am_x 133 [.ref a0, .int a1, .int a2] w = am_run 133 0 [some (.ref a0), some (.int a1), some (.int a2), none, none] [] w :=
  congrArg (fun l => am_run 133 0 l [] w) (bnr (ls := am_xp [.ref a0, .int a1, .int a2] ++ List.replicate (am_ml 133 - (am_xp [.ref a0, .int a1, .int a2]).length) none) (ls' := [some (.ref a0), some (.int a1), some (.int a2), none, none]) bf133_0 rfl)
theorem bx134 {w : am_Wd} {a0 : Nat} {a1 : Int32} : am_x 134 [.ref a0, .int a1] w = am_run 134 0 [some (.ref a0), some (.int a1), none, none] [] w :=
  congrArg (fun l => am_run 134 0 l [] w) (bnr (ls := am_xp [.ref a0, .int a1] ++ List.replicate (am_ml 134 - (am_xp [.ref a0, .int a1]).length) none) (ls' := [some (.ref a0), some (.int a1), none, none]) bf134_0 rfl)
theorem bx135 {w : am_Wd} {a0 : Nat} {a1 : Int32} : am_x 135 [.ref a0, .int a1] w = am_run 135 0 [some (.ref a0), some (.int a1)] [] w :=
  congrArg (fun l => am_run 135 0 l [] w) (bnr (ls := am_xp [.ref a0, .int a1] ++ List.replicate (am_ml 135 - (am_xp [.ref a0, .int a1]).length) none) (ls' := [some (.ref a0), some (.int a1)]) bf135_0 rfl)
theorem bx136 {w : am_Wd} {a0 : Nat} {a1 : Int32} : am_x 136 [.ref a0, .int a1] w = am_run 136 0 [some (.ref a0), some (.int a1)] [] w :=
  congrArg (fun l => am_run 136 0 l [] w) (bnr (ls := am_xp [.ref a0, .int a1] ++ List.replicate (am_ml 136 - (am_xp [.ref a0, .int a1]).length) none) (ls' := [some (.ref a0), some (.int a1)]) bf136_0 rfl)
theorem bx137 {w : am_Wd} {a0 : Nat} {a1 : Int32} {a2 : Int32} {a3 : Int32} : am_x 137 [.ref a0, .int a1, .int a2, .int a3] w = am_run 137 0 [some (.ref a0), some (.int a1), some (.int a2), some (.int a3), none] [] w :=
  congrArg (fun l => am_run 137 0 l [] w) (bnr (ls := am_xp [.ref a0, .int a1, .int a2, .int a3] ++ List.replicate (am_ml 137 - (am_xp [.ref a0, .int a1, .int a2, .int a3]).length) none) (ls' := [some (.ref a0), some (.int a1), some (.int a2), some (.int a3), none]) bf137_0 rfl)
theorem bx138 {w : am_Wd} {a0 : Nat} {a1 : Int32} {a2 : Int32} : am_x 138 [.ref a0, .int a1, .int a2] w = am_run 138 0 [some (.ref a0), some (.int a1), some (.int a2), none] [] w :=
  congrArg (fun l => am_run 138 0 l [] w) (bnr (ls := am_xp [.ref a0, .int a1, .int a2] ++ List.replicate (am_ml 138 - (am_xp [.ref a0, .int a1, .int a2]).length) none) (ls' := [some (.ref a0), some (.int a1), some (.int a2), none]) bf138_0 rfl)
theorem bx139 {w : am_Wd} {a0 : Nat} {a1 : Int32} {a2 : Int32} : am_x 139 [.ref a0, .int a1, .int a2] w = am_run 139 0 [some (.ref a0), some (.int a1), some (.int a2), none] [] w :=
  congrArg (fun l => am_run 139 0 l [] w) (bnr (ls := am_xp [.ref a0, .int a1, .int a2] ++ List.replicate (am_ml 139 - (am_xp [.ref a0, .int a1, .int a2]).length) none) (ls' := [some (.ref a0), some (.int a1), some (.int a2), none]) bf139_0 rfl)
theorem bx140 {w : am_Wd} {a0 : Nat} {a1 : Int32} {a2 : Int32} {a3 : Int32} : am_x 140 [.ref a0, .int a1, .int a2, .int a3] w = am_run 140 0 [some (.ref a0), some (.int a1), some (.int a2), some (.int a3), none] [] w :=
  congrArg (fun l => am_run 140 0 l [] w) (bnr (ls := am_xp [.ref a0, .int a1, .int a2, .int a3] ++ List.replicate (am_ml 140 - (am_xp [.ref a0, .int a1, .int a2, .int a3]).length) none) (ls' := [some (.ref a0), some (.int a1), some (.int a2), some (.int a3), none]) bf140_0 rfl)
theorem bx141 {w : am_Wd} {a0 : Nat} {a1 : Nat} : am_x 141 [.ref a0, .ref a1] w = am_run 141 0 [some (.ref a0), some (.ref a1)] [] w :=
  congrArg (fun l => am_run 141 0 l [] w) (bnr (ls := am_xp [.ref a0, .ref a1] ++ List.replicate (am_ml 141 - (am_xp [.ref a0, .ref a1]).length) none) (ls' := [some (.ref a0), some (.ref a1)]) bf141_0 rfl)
theorem bx142 {w : am_Wd} {a0 : Int32} {a1 : Int32} : am_x 142 [.int a0, .int a1] w = am_run 142 0 [some (.int a0), some (.int a1)] [] w :=
  congrArg (fun l => am_run 142 0 l [] w) (bnr (ls := am_xp [.int a0, .int a1] ++ List.replicate (am_ml 142 - (am_xp [.int a0, .int a1]).length) none) (ls' := [some (.int a0), some (.int a1)]) bf142_0 rfl)
theorem bx143 {w : am_Wd} {a0 : Int32} {a1 : Int32} : am_x 143 [.int a0, .int a1] w = am_run 143 0 [some (.int a0), some (.int a1)] [] w :=
  congrArg (fun l => am_run 143 0 l [] w) (bnr (ls := am_xp [.int a0, .int a1] ++ List.replicate (am_ml 143 - (am_xp [.int a0, .int a1]).length) none) (ls' := [some (.int a0), some (.int a1)]) bf143_0 rfl)
theorem bx144 {w : am_Wd} {a0 : Nat} {a1 : Int32} {a2 : Int32} {a3 : Int32} : am_x 144 [.ref a0, .int a1, .int a2, .int a3] w = am_run 144 0 [some (.ref a0), some (.int a1), some (.int a2), some (.int a3)] [] w :=
  congrArg (fun l => am_run 144 0 l [] w) (bnr (ls := am_xp [.ref a0, .int a1, .int a2, .int a3] ++ List.replicate (am_ml 144 - (am_xp [.ref a0, .int a1, .int a2, .int a3]).length) none) (ls' := [some (.ref a0), some (.int a1), some (.int a2), some (.int a3)]) bf144_0 rfl)
theorem bx145 {w : am_Wd} {a0 : Nat} {a1 : Int32} : am_x 145 [.ref a0, .int a1] w = am_run 145 0 [some (.ref a0), some (.int a1)] [] w :=
  congrArg (fun l => am_run 145 0 l [] w) (bnr (ls := am_xp [.ref a0, .int a1] ++ List.replicate (am_ml 145 - (am_xp [.ref a0, .int a1]).length) none) (ls' := [some (.ref a0), some (.int a1)]) bf145_0 rfl)
theorem bx146 {w : am_Wd} {a0 : Nat} {a1 : Nat} {a2 : Int32} : am_x 146 [.ref a0, .ref a1, .int a2] w = am_run 146 0 [some (.ref a0), some (.ref a1), some (.int a2), none, none, none, none, none, none] [] w :=
  congrArg (fun l => am_run 146 0 l [] w) (bnr (ls := am_xp [.ref a0, .ref a1, .int a2] ++ List.replicate (am_ml 146 - (am_xp [.ref a0, .ref a1, .int a2]).length) none) (ls' := [some (.ref a0), some (.ref a1), some (.int a2), none, none, none, none, none, none]) bf146_0 rfl)
theorem bx147 {w : am_Wd} {a0 : Nat} {a1 : Int32} {a2 : Int32} {a3 : Int32} {a4 : Nat} : am_x 147 [.ref a0, .int a1, .int a2, .int a3, .ref a4] w = am_run 147 0 [some (.ref a0), some (.int a1), some (.int a2), some (.int a3), some (.ref a4), none] [] w :=
  congrArg (fun l => am_run 147 0 l [] w) (bnr (ls := am_xp [.ref a0, .int a1, .int a2, .int a3, .ref a4] ++ List.replicate (am_ml 147 - (am_xp [.ref a0, .int a1, .int a2, .int a3, .ref a4]).length) none) (ls' := [some (.ref a0), some (.int a1), some (.int a2), some (.int a3), some (.ref a4), none]) bf147_0 rfl)
theorem bx148 {w : am_Wd} {a0 : Nat} {a1 : Int32} {a2 : Nat} : am_x 148 [.ref a0, .int a1, .ref a2] w = am_run 148 0 [some (.ref a0), some (.int a1), some (.ref a2), none] [] w :=
  congrArg (fun l => am_run 148 0 l [] w) (bnr (ls := am_xp [.ref a0, .int a1, .ref a2] ++ List.replicate (am_ml 148 - (am_xp [.ref a0, .int a1, .ref a2]).length) none) (ls' := [some (.ref a0), some (.int a1), some (.ref a2), none]) bf148_0 rfl)
theorem bx149 {w : am_Wd} {a0 : Nat} {a1 : Nat} {a2 : Nat} {a3 : Int32} : am_x 149 [.ref a0, .ref a1, .ref a2, .int a3] w = am_run 149 0 [some (.ref a0), some (.ref a1), some (.ref a2), some (.int a3)] [] w :=
  congrArg (fun l => am_run 149 0 l [] w) (bnr (ls := am_xp [.ref a0, .ref a1, .ref a2, .int a3] ++ List.replicate (am_ml 149 - (am_xp [.ref a0, .ref a1, .ref a2, .int a3]).length) none) (ls' := [some (.ref a0), some (.ref a1), some (.ref a2), some (.int a3)]) bf149_0 rfl)
theorem bx150 {w : am_Wd} {a0 : Nat} {a1 : Int32} : am_x 150 [.ref a0, .int a1] w = am_run 150 0 [some (.ref a0), some (.int a1)] [] w :=
  congrArg (fun l => am_run 150 0 l [] w) (bnr (ls := am_xp [.ref a0, .int a1] ++ List.replicate (am_ml 150 - (am_xp [.ref a0, .int a1]).length) none) (ls' := [some (.ref a0), some (.int a1)]) bf150_0 rfl)
theorem bx151 {w : am_Wd} {a0 : Nat} : am_x 151 [.ref a0] w = am_run 151 0 [some (.ref a0)] [] w :=
  congrArg (fun l => am_run 151 0 l [] w) (bnr (ls := am_xp [.ref a0] ++ List.replicate (am_ml 151 - (am_xp [.ref a0]).length) none) (ls' := [some (.ref a0)]) bf151_0 rfl)
theorem bx157 {w : am_Wd} {a0 : Nat} {a1 : Int32} : am_x 157 [.ref a0, .int a1] w = am_run 157 0 [some (.ref a0), some (.int a1), none, none, none] [] w :=
  congrArg (fun l => am_run 157 0 l [] w) (bnr (ls := am_xp [.ref a0, .int a1] ++ List.replicate (am_ml 157 - (am_xp [.ref a0, .int a1]).length) none) (ls' := [some (.ref a0), some (.int a1), none, none, none]) bf157_0 rfl)
theorem bx158 {w : am_Wd} {a0 : Nat} {a1 : Int32} {a2 : Int32} {a3 : Int32} : am_x 158 [.ref a0, .int a1, .int a2, .int a3] w = am_run 158 0 [some (.ref a0), some (.int a1), some (.int a2), some (.int a3), none, none] [] w :=
  congrArg (fun l => am_run 158 0 l [] w) (bnr (ls := am_xp [.ref a0, .int a1, .int a2, .int a3] ++ List.replicate (am_ml 158 - (am_xp [.ref a0, .int a1, .int a2, .int a3]).length) none) (ls' := [some (.ref a0), some (.int a1), some (.int a2), some (.int a3), none, none]) bf158_0 rfl)
theorem bx159 {w : am_Wd} {a0 : Nat} {a1 : Nat} {a2 : Int32} {a3 : Int32} : am_x 159 [.ref a0, .ref a1, .int a2, .int a3] w = am_run 159 0 [some (.ref a0), some (.ref a1), some (.int a2), some (.int a3), none, none, none, none, none] [] w :=
  congrArg (fun l => am_run 159 0 l [] w) (bnr (ls := am_xp [.ref a0, .ref a1, .int a2, .int a3] ++ List.replicate (am_ml 159 - (am_xp [.ref a0, .ref a1, .int a2, .int a3]).length) none) (ls' := [some (.ref a0), some (.ref a1), some (.int a2), some (.int a3), none, none, none, none, none]) bf159_0 rfl)
theorem bx160 {w : am_Wd} {a0 : Nat} {a1 : Int32} : am_x 160 [.ref a0, .int a1] w = am_run 160 0 [some (.ref a0), some (.int a1), none] [] w :=
  congrArg (fun l => am_run 160 0 l [] w) (bnr (ls := am_xp [.ref a0, .int a1] ++ List.replicate (am_ml 160 - (am_xp [.ref a0, .int a1]).length) none) (ls' := [some (.ref a0), some (.int a1), none]) bf160_0 rfl)
theorem bx161 {w : am_Wd} {a0 : Nat} {a1 : Int32} : am_x 161 [.ref a0, .int a1] w = am_run 161 0 [some (.ref a0), some (.int a1), none, none] [] w :=
  congrArg (fun l => am_run 161 0 l [] w) (bnr (ls := am_xp [.ref a0, .int a1] ++ List.replicate (am_ml 161 - (am_xp [.ref a0, .int a1]).length) none) (ls' := [some (.ref a0), some (.int a1), none, none]) bf161_0 rfl)
theorem bx162 {w : am_Wd} {a0 : Nat} : am_x 162 [.ref a0] w = am_run 162 0 [some (.ref a0), none] [] w :=
  congrArg (fun l => am_run 162 0 l [] w) (bnr (ls := am_xp [.ref a0] ++ List.replicate (am_ml 162 - (am_xp [.ref a0]).length) none) (ls' := [some (.ref a0), none]) bf162_0 rfl)
theorem bx163 {w : am_Wd} {a0 : Nat} : am_x 163 [.ref a0] w = am_run 163 0 [some (.ref a0), none] [] w :=
  congrArg (fun l => am_run 163 0 l [] w) (bnr (ls := am_xp [.ref a0] ++ List.replicate (am_ml 163 - (am_xp [.ref a0]).length) none) (ls' := [some (.ref a0), none]) bf163_0 rfl)
theorem bx164 {w : am_Wd} {a0 : Nat} {a1 : Int32} : am_x 164 [.ref a0, .int a1] w = am_run 164 0 [some (.ref a0), some (.int a1), none, none] [] w :=
  congrArg (fun l => am_run 164 0 l [] w) (bnr (ls := am_xp [.ref a0, .int a1] ++ List.replicate (am_ml 164 - (am_xp [.ref a0, .int a1]).length) none) (ls' := [some (.ref a0), some (.int a1), none, none]) bf164_0 rfl)
theorem bx165 {w : am_Wd} {a0 : Nat} {a1 : Int32} : am_x 165 [.ref a0, .int a1] w = am_run 165 0 [some (.ref a0), some (.int a1)] [] w :=
  congrArg (fun l => am_run 165 0 l [] w) (bnr (ls := am_xp [.ref a0, .int a1] ++ List.replicate (am_ml 165 - (am_xp [.ref a0, .int a1]).length) none) (ls' := [some (.ref a0), some (.int a1)]) bf165_0 rfl)
theorem bx166 {w : am_Wd} {a0 : Nat} {a1 : Int32} {a2 : Int32} {a3 : Int32} {a4 : Int32} : am_x 166 [.ref a0, .int a1, .int a2, .int a3, .int a4] w = am_run 166 0 [some (.ref a0), some (.int a1), some (.int a2), some (.int a3), some (.int a4), none] [] w :=
  congrArg (fun l => am_run 166 0 l [] w) (bnr (ls := am_xp [.ref a0, .int a1, .int a2, .int a3, .int a4] ++ List.replicate (am_ml 166 - (am_xp [.ref a0, .int a1, .int a2, .int a3, .int a4]).length) none) (ls' := [some (.ref a0), some (.int a1), some (.int a2), some (.int a3), some (.int a4), none]) bf166_0 rfl)
theorem bx167 {w : am_Wd} {a0 : Nat} {a1 : Int32} {a2 : Int32} {a3 : Int32} {a4 : Int32} : am_x 167 [.ref a0, .int a1, .int a2, .int a3, .int a4] w = am_run 167 0 [some (.ref a0), some (.int a1), some (.int a2), some (.int a3), some (.int a4), none] [] w :=
  congrArg (fun l => am_run 167 0 l [] w) (bnr (ls := am_xp [.ref a0, .int a1, .int a2, .int a3, .int a4] ++ List.replicate (am_ml 167 - (am_xp [.ref a0, .int a1, .int a2, .int a3, .int a4]).length) none) (ls' := [some (.ref a0), some (.int a1), some (.int a2), some (.int a3), some (.int a4), none]) bf167_0 rfl)
theorem bx168 {w : am_Wd} {a0 : Nat} {a1 : Int32} {a2 : Int32} : am_x 168 [.ref a0, .int a1, .int a2] w = am_run 168 0 [some (.ref a0), some (.int a1), some (.int a2), none, none] [] w :=
  congrArg (fun l => am_run 168 0 l [] w) (bnr (ls := am_xp [.ref a0, .int a1, .int a2] ++ List.replicate (am_ml 168 - (am_xp [.ref a0, .int a1, .int a2]).length) none) (ls' := [some (.ref a0), some (.int a1), some (.int a2), none, none]) bf168_0 rfl)
theorem bx169 {w : am_Wd} {a0 : Nat} {a1 : Int32} {a2 : Int32} {a3 : Int32} : am_x 169 [.ref a0, .int a1, .int a2, .int a3] w = am_run 169 0 [some (.ref a0), some (.int a1), some (.int a2), some (.int a3)] [] w :=
  congrArg (fun l => am_run 169 0 l [] w) (bnr (ls := am_xp [.ref a0, .int a1, .int a2, .int a3] ++ List.replicate (am_ml 169 - (am_xp [.ref a0, .int a1, .int a2, .int a3]).length) none) (ls' := [some (.ref a0), some (.int a1), some (.int a2), some (.int a3)]) bf169_0 rfl)
theorem bx170 {w : am_Wd} {a0 : Nat} {a1 : Int32} {a2 : Int32} : am_x 170 [.ref a0, .int a1, .int a2] w = am_run 170 0 [some (.ref a0), some (.int a1), some (.int a2), none] [] w :=
  congrArg (fun l => am_run 170 0 l [] w) (bnr (ls := am_xp [.ref a0, .int a1, .int a2] ++ List.replicate (am_ml 170 - (am_xp [.ref a0, .int a1, .int a2]).length) none) (ls' := [some (.ref a0), some (.int a1), some (.int a2), none]) bf170_0 rfl)
theorem bx171 {w : am_Wd} {a0 : Nat} {a1 : Nat} : am_x 171 [.ref a0, .ref a1] w = am_run 171 0 [some (.ref a0), some (.ref a1), none, none] [] w :=
  congrArg (fun l => am_run 171 0 l [] w) (bnr (ls := am_xp [.ref a0, .ref a1] ++ List.replicate (am_ml 171 - (am_xp [.ref a0, .ref a1]).length) none) (ls' := [some (.ref a0), some (.ref a1), none, none]) bf171_0 rfl)
theorem bx172 {w : am_Wd} {a0 : Nat} : am_x 172 [.ref a0] w = am_run 172 0 [some (.ref a0)] [] w :=
  congrArg (fun l => am_run 172 0 l [] w) (bnr (ls := am_xp [.ref a0] ++ List.replicate (am_ml 172 - (am_xp [.ref a0]).length) none) (ls' := [some (.ref a0)]) bf172_0 rfl)
theorem bx173 {w : am_Wd} {a0 : Nat} {a1 : Int32} {a2 : Int32} : am_x 173 [.ref a0, .int a1, .int a2] w = am_run 173 0 [some (.ref a0), some (.int a1), some (.int a2)] [] w :=
  congrArg (fun l => am_run 173 0 l [] w) (bnr (ls := am_xp [.ref a0, .int a1, .int a2] ++ List.replicate (am_ml 173 - (am_xp [.ref a0, .int a1, .int a2]).length) none) (ls' := [some (.ref a0), some (.int a1), some (.int a2)]) bf173_0 rfl)
theorem bx174 {w : am_Wd} {a0 : Nat} {a1 : Int32} {a2 : Int32} : am_x 174 [.ref a0, .int a1, .int a2] w = am_run 174 0 [some (.ref a0), some (.int a1), some (.int a2)] [] w :=
  congrArg (fun l => am_run 174 0 l [] w) (bnr (ls := am_xp [.ref a0, .int a1, .int a2] ++ List.replicate (am_ml 174 - (am_xp [.ref a0, .int a1, .int a2]).length) none) (ls' := [some (.ref a0), some (.int a1), some (.int a2)]) bf174_0 rfl)
theorem bx175 {w : am_Wd} {a0 : Nat} {a1 : Int32} {a2 : Int32} {a3 : Int32} : am_x 175 [.ref a0, .int a1, .int a2, .int a3] w = am_run 175 0 [some (.ref a0), some (.int a1), some (.int a2), some (.int a3)] [] w :=
  congrArg (fun l => am_run 175 0 l [] w) (bnr (ls := am_xp [.ref a0, .int a1, .int a2, .int a3] ++ List.replicate (am_ml 175 - (am_xp [.ref a0, .int a1, .int a2, .int a3]).length) none) (ls' := [some (.ref a0), some (.int a1), some (.int a2), some (.int a3)]) bf175_0 rfl)
theorem bx176 {w : am_Wd} {a0 : Nat} {a1 : Int32} {a2 : Int32} {a3 : Int32} {a4 : Int32} : am_x 176 [.ref a0, .int a1, .int a2, .int a3, .int a4] w = am_run 176 0 [some (.ref a0), some (.int a1), some (.int a2), some (.int a3), some (.int a4), none, none] [] w :=
  congrArg (fun l => am_run 176 0 l [] w) (bnr (ls := am_xp [.ref a0, .int a1, .int a2, .int a3, .int a4] ++ List.replicate (am_ml 176 - (am_xp [.ref a0, .int a1, .int a2, .int a3, .int a4]).length) none) (ls' := [some (.ref a0), some (.int a1), some (.int a2), some (.int a3), some (.int a4), none, none]) bf176_0 rfl)
theorem bx177 {w : am_Wd} {a0 : Nat} {a1 : Int32} : am_x 177 [.ref a0, .int a1] w = am_run 177 0 [some (.ref a0), some (.int a1), none, none, none] [] w :=
  congrArg (fun l => am_run 177 0 l [] w) (bnr (ls := am_xp [.ref a0, .int a1] ++ List.replicate (am_ml 177 - (am_xp [.ref a0, .int a1]).length) none) (ls' := [some (.ref a0), some (.int a1), none, none, none]) bf177_0 rfl)
theorem bx178 {w : am_Wd} {a0 : Nat} {a1 : Int32} {a2 : Int32} : am_x 178 [.ref a0, .int a1, .int a2] w = am_run 178 0 [some (.ref a0), some (.int a1), some (.int a2), none] [] w :=
  congrArg (fun l => am_run 178 0 l [] w) (bnr (ls := am_xp [.ref a0, .int a1, .int a2] ++ List.replicate (am_ml 178 - (am_xp [.ref a0, .int a1, .int a2]).length) none) (ls' := [some (.ref a0), some (.int a1), some (.int a2), none]) bf178_0 rfl)
theorem bx179 {w : am_Wd} {a0 : Nat} {a1 : Int32} : am_x 179 [.ref a0, .int a1] w = am_run 179 0 [some (.ref a0), some (.int a1), none, none] [] w :=
  congrArg (fun l => am_run 179 0 l [] w) (bnr (ls := am_xp [.ref a0, .int a1] ++ List.replicate (am_ml 179 - (am_xp [.ref a0, .int a1]).length) none) (ls' := [some (.ref a0), some (.int a1), none, none]) bf179_0 rfl)
theorem bx180 {w : am_Wd} {a0 : Nat} {a1 : Int32} {a2 : Int32} : am_x 180 [.ref a0, .int a1, .int a2] w = am_run 180 0 [some (.ref a0), some (.int a1), some (.int a2), none, none, none, none, none, none, none] [] w :=
  congrArg (fun l => am_run 180 0 l [] w) (bnr (ls := am_xp [.ref a0, .int a1, .int a2] ++ List.replicate (am_ml 180 - (am_xp [.ref a0, .int a1, .int a2]).length) none) (ls' := [some (.ref a0), some (.int a1), some (.int a2), none, none, none, none, none, none, none]) bf180_0 rfl)
theorem bx181 {w : am_Wd} {a0 : Nat} {a1 : Int32} {a2 : Int32} {a3 : Int32} : am_x 181 [.ref a0, .int a1, .int a2, .int a3] w = am_run 181 0 [some (.ref a0), some (.int a1), some (.int a2), some (.int a3), none, none] [] w :=
  congrArg (fun l => am_run 181 0 l [] w) (bnr (ls := am_xp [.ref a0, .int a1, .int a2, .int a3] ++ List.replicate (am_ml 181 - (am_xp [.ref a0, .int a1, .int a2, .int a3]).length) none) (ls' := [some (.ref a0), some (.int a1), some (.int a2), some (.int a3), none, none]) bf181_0 rfl)
theorem bx182 {w : am_Wd} {a0 : Nat} {a1 : Int32} {a2 : Int32} : am_x 182 [.ref a0, .int a1, .int a2] w = am_run 182 0 [some (.ref a0), some (.int a1), some (.int a2)] [] w :=
  congrArg (fun l => am_run 182 0 l [] w) (bnr (ls := am_xp [.ref a0, .int a1, .int a2] ++ List.replicate (am_ml 182 - (am_xp [.ref a0, .int a1, .int a2]).length) none) (ls' := [some (.ref a0), some (.int a1), some (.int a2)]) bf182_0 rfl)
theorem bx183 {w : am_Wd} {a0 : Nat} {a1 : Int32} {a2 : Int32} : am_x 183 [.ref a0, .int a1, .int a2] w = am_run 183 0 [some (.ref a0), some (.int a1), some (.int a2)] [] w :=
  congrArg (fun l => am_run 183 0 l [] w) (bnr (ls := am_xp [.ref a0, .int a1, .int a2] ++ List.replicate (am_ml 183 - (am_xp [.ref a0, .int a1, .int a2]).length) none) (ls' := [some (.ref a0), some (.int a1), some (.int a2)]) bf183_0 rfl)
theorem bx184 {w : am_Wd} {a0 : Nat} {a1 : Int32} {a2 : Int32} : am_x 184 [.ref a0, .int a1, .int a2] w = am_run 184 0 [some (.ref a0), some (.int a1), some (.int a2)] [] w :=
  congrArg (fun l => am_run 184 0 l [] w) (bnr (ls := am_xp [.ref a0, .int a1, .int a2] ++ List.replicate (am_ml 184 - (am_xp [.ref a0, .int a1, .int a2]).length) none) (ls' := [some (.ref a0), some (.int a1), some (.int a2)]) bf184_0 rfl)
theorem bx185 {w : am_Wd} {a0 : Nat} {a1 : Int32} : am_x 185 [.ref a0, .int a1] w = am_run 185 0 [some (.ref a0), some (.int a1)] [] w :=
  congrArg (fun l => am_run 185 0 l [] w) (bnr (ls := am_xp [.ref a0, .int a1] ++ List.replicate (am_ml 185 - (am_xp [.ref a0, .int a1]).length) none) (ls' := [some (.ref a0), some (.int a1)]) bf185_0 rfl)
theorem bx186 {w : am_Wd} {a0 : Nat} : am_x 186 [.ref a0] w = am_run 186 0 [some (.ref a0), none, none, none] [] w :=
  congrArg (fun l => am_run 186 0 l [] w) (bnr (ls := am_xp [.ref a0] ++ List.replicate (am_ml 186 - (am_xp [.ref a0]).length) none) (ls' := [some (.ref a0), none, none, none]) bf186_0 rfl)
theorem bx187 {w : am_Wd} {a0 : Nat} {a1 : Int32} {a2 : Int32} {a3 : Nat} : am_x 187 [.ref a0, .int a1, .int a2, .ref a3] w = am_run 187 0 [some (.ref a0), some (.int a1), some (.int a2), some (.ref a3), none] [] w :=
  congrArg (fun l => am_run 187 0 l [] w) (bnr (ls := am_xp [.ref a0, .int a1, .int a2, .ref a3] ++ List.replicate (am_ml 187 - (am_xp [.ref a0, .int a1, .int a2, .ref a3]).length) none) (ls' := [some (.ref a0), some (.int a1), some (.int a2), some (.ref a3), none]) bf187_0 rfl)
theorem bx188 {w : am_Wd} {a0 : Nat} {a1 : Int32} {a2 : Nat} : am_x 188 [.ref a0, .int a1, .ref a2] w = am_run 188 0 [some (.ref a0), some (.int a1), some (.ref a2), none] [] w :=
  congrArg (fun l => am_run 188 0 l [] w) (bnr (ls := am_xp [.ref a0, .int a1, .ref a2] ++ List.replicate (am_ml 188 - (am_xp [.ref a0, .int a1, .ref a2]).length) none) (ls' := [some (.ref a0), some (.int a1), some (.ref a2), none]) bf188_0 rfl)
theorem bx189 {w : am_Wd} {a0 : Nat} {a1 : Int32} {a2 : Nat} : am_x 189 [.ref a0, .int a1, .ref a2] w = am_run 189 0 [some (.ref a0), some (.int a1), some (.ref a2), none] [] w :=
  congrArg (fun l => am_run 189 0 l [] w) (bnr (ls := am_xp [.ref a0, .int a1, .ref a2] ++ List.replicate (am_ml 189 - (am_xp [.ref a0, .int a1, .ref a2]).length) none) (ls' := [some (.ref a0), some (.int a1), some (.ref a2), none]) bf189_0 rfl)
theorem bx190 {w : am_Wd} {a0 : Nat} {a1 : Int32} {a2 : Nat} : am_x 190 [.ref a0, .int a1, .ref a2] w = am_run 190 0 [some (.ref a0), some (.int a1), some (.ref a2), none] [] w :=
  congrArg (fun l => am_run 190 0 l [] w) (bnr (ls := am_xp [.ref a0, .int a1, .ref a2] ++ List.replicate (am_ml 190 - (am_xp [.ref a0, .int a1, .ref a2]).length) none) (ls' := [some (.ref a0), some (.int a1), some (.ref a2), none]) bf190_0 rfl)
theorem bx191 {w : am_Wd} {a0 : Nat} {a1 : Int32} {a2 : Int32} {a3 : Int32} {a4 : Nat} : am_x 191 [.ref a0, .int a1, .int a2, .int a3, .ref a4] w = am_run 191 0 [some (.ref a0), some (.int a1), some (.int a2), some (.int a3), some (.ref a4), none] [] w :=
  congrArg (fun l => am_run 191 0 l [] w) (bnr (ls := am_xp [.ref a0, .int a1, .int a2, .int a3, .ref a4] ++ List.replicate (am_ml 191 - (am_xp [.ref a0, .int a1, .int a2, .int a3, .ref a4]).length) none) (ls' := [some (.ref a0), some (.int a1), some (.int a2), some (.int a3), some (.ref a4), none]) bf191_0 rfl)
theorem bx192 {w : am_Wd} {a0 : Nat} {a1 : Int32} {a2 : Int32} {a3 : Nat} : am_x 192 [.ref a0, .int a1, .int a2, .ref a3] w = am_run 192 0 [some (.ref a0), some (.int a1), some (.int a2), some (.ref a3), none] [] w :=
  congrArg (fun l => am_run 192 0 l [] w) (bnr (ls := am_xp [.ref a0, .int a1, .int a2, .ref a3] ++ List.replicate (am_ml 192 - (am_xp [.ref a0, .int a1, .int a2, .ref a3]).length) none) (ls' := [some (.ref a0), some (.int a1), some (.int a2), some (.ref a3), none]) bf192_0 rfl)
theorem bx193 {w : am_Wd} {a0 : Nat} {a1 : Int32} {a2 : Int32} {a3 : Nat} : am_x 193 [.ref a0, .int a1, .int a2, .ref a3] w = am_run 193 0 [some (.ref a0), some (.int a1), some (.int a2), some (.ref a3), none] [] w :=
  congrArg (fun l => am_run 193 0 l [] w) (bnr (ls := am_xp [.ref a0, .int a1, .int a2, .ref a3] ++ List.replicate (am_ml 193 - (am_xp [.ref a0, .int a1, .int a2, .ref a3]).length) none) (ls' := [some (.ref a0), some (.int a1), some (.int a2), some (.ref a3), none]) bf193_0 rfl)
theorem bx194 {w : am_Wd} {a0 : Nat} {a1 : Int32} {a2 : Int32} {a3 : Int32} {a4 : Nat} : am_x 194 [.ref a0, .int a1, .int a2, .int a3, .ref a4] w = am_run 194 0 [some (.ref a0), some (.int a1), some (.int a2), some (.int a3), some (.ref a4), none] [] w :=
  congrArg (fun l => am_run 194 0 l [] w) (bnr (ls := am_xp [.ref a0, .int a1, .int a2, .int a3, .ref a4] ++ List.replicate (am_ml 194 - (am_xp [.ref a0, .int a1, .int a2, .int a3, .ref a4]).length) none) (ls' := [some (.ref a0), some (.int a1), some (.int a2), some (.int a3), some (.ref a4), none]) bf194_0 rfl)
theorem bx195 {w : am_Wd} {a0 : Nat} {a1 : Nat} : am_x 195 [.ref a0, .ref a1] w = am_run 195 0 [some (.ref a0), some (.ref a1)] [] w :=
  congrArg (fun l => am_run 195 0 l [] w) (bnr (ls := am_xp [.ref a0, .ref a1] ++ List.replicate (am_ml 195 - (am_xp [.ref a0, .ref a1]).length) none) (ls' := [some (.ref a0), some (.ref a1)]) bf195_0 rfl)
theorem bx199 {w : am_Wd} {a0 : Nat} : am_x 199 [.ref a0] w = am_run 199 0 [some (.ref a0), none] [] w :=
  congrArg (fun l => am_run 199 0 l [] w) (bnr (ls := am_xp [.ref a0] ++ List.replicate (am_ml 199 - (am_xp [.ref a0]).length) none) (ls' := [some (.ref a0), none]) bf199_0 rfl)
theorem bx200 {w : am_Wd} {a0 : Nat} {a1 : Int32} : am_x 200 [.ref a0, .int a1] w = am_run 200 0 [some (.ref a0), some (.int a1)] [] w :=
  congrArg (fun l => am_run 200 0 l [] w) (bnr (ls := am_xp [.ref a0, .int a1] ++ List.replicate (am_ml 200 - (am_xp [.ref a0, .int a1]).length) none) (ls' := [some (.ref a0), some (.int a1)]) bf200_0 rfl)
theorem bx201 {w : am_Wd} {a0 : Nat} {a1 : Int32} {a2 : Int32} : am_x 201 [.ref a0, .int a1, .int a2] w = am_run 201 0 [some (.ref a0), some (.int a1), some (.int a2), none] [] w :=
  congrArg (fun l => am_run 201 0 l [] w) (bnr (ls := am_xp [.ref a0, .int a1, .int a2] ++ List.replicate (am_ml 201 - (am_xp [.ref a0, .int a1, .int a2]).length) none) (ls' := [some (.ref a0), some (.int a1), some (.int a2), none]) bf201_0 rfl)
theorem bx202 {w : am_Wd} {a0 : Nat} {a1 : Int32} {a2 : Int32} : am_x 202 [.ref a0, .int a1, .int a2] w = am_run 202 0 [some (.ref a0), some (.int a1), some (.int a2), none] [] w :=
  congrArg (fun l => am_run 202 0 l [] w) (bnr (ls := am_xp [.ref a0, .int a1, .int a2] ++ List.replicate (am_ml 202 - (am_xp [.ref a0, .int a1, .int a2]).length) none) (ls' := [some (.ref a0), some (.int a1), some (.int a2), none]) bf202_0 rfl)
theorem bx203 {w : am_Wd} {a0 : Nat} {a1 : Int32} : am_x 203 [.ref a0, .int a1] w = am_run 203 0 [some (.ref a0), some (.int a1), none, none, none] [] w :=
  congrArg (fun l => am_run 203 0 l [] w) (bnr (ls := am_xp [.ref a0, .int a1] ++ List.replicate (am_ml 203 - (am_xp [.ref a0, .int a1]).length) none) (ls' := [some (.ref a0), some (.int a1), none, none, none]) bf203_0 rfl)
theorem bx204 {w : am_Wd} {a0 : Nat} {a1 : Int32} {a2 : Int32} : am_x 204 [.ref a0, .int a1, .int a2] w = am_run 204 0 [some (.ref a0), some (.int a1), some (.int a2)] [] w :=
  congrArg (fun l => am_run 204 0 l [] w) (bnr (ls := am_xp [.ref a0, .int a1, .int a2] ++ List.replicate (am_ml 204 - (am_xp [.ref a0, .int a1, .int a2]).length) none) (ls' := [some (.ref a0), some (.int a1), some (.int a2)]) bf204_0 rfl)
theorem bx205 {w : am_Wd} {a0 : Nat} {a1 : Nat} : am_x 205 [.ref a0, .ref a1] w = am_run 205 0 [some (.ref a0), some (.ref a1), none, none, none] [] w :=
  congrArg (fun l => am_run 205 0 l [] w) (bnr (ls := am_xp [.ref a0, .ref a1] ++ List.replicate (am_ml 205 - (am_xp [.ref a0, .ref a1]).length) none) (ls' := [some (.ref a0), some (.ref a1), none, none, none]) bf205_0 rfl)
theorem bx206 {w : am_Wd} {a0 : Nat} {a1 : Int32} : am_x 206 [.ref a0, .int a1] w = am_run 206 0 [some (.ref a0), some (.int a1), none, none, none] [] w :=
  congrArg (fun l => am_run 206 0 l [] w) (bnr (ls := am_xp [.ref a0, .int a1] ++ List.replicate (am_ml 206 - (am_xp [.ref a0, .int a1]).length) none) (ls' := [some (.ref a0), some (.int a1), none, none, none]) bf206_0 rfl)
theorem bx207 {w : am_Wd} {a0 : Nat} {a1 : Int32} {a2 : Int32} {a3 : Int32} {a4 : Int32} : am_x 207 [.ref a0, .int a1, .int a2, .int a3, .int a4] w = am_run 207 0 [some (.ref a0), some (.int a1), some (.int a2), some (.int a3), some (.int a4), none] [] w :=
  congrArg (fun l => am_run 207 0 l [] w) (bnr (ls := am_xp [.ref a0, .int a1, .int a2, .int a3, .int a4] ++ List.replicate (am_ml 207 - (am_xp [.ref a0, .int a1, .int a2, .int a3, .int a4]).length) none) (ls' := [some (.ref a0), some (.int a1), some (.int a2), some (.int a3), some (.int a4), none]) bf207_0 rfl)
theorem bx208 {w : am_Wd} {a0 : Nat} {a1 : Nat} {a2 : Int32} : am_x 208 [.ref a0, .ref a1, .int a2] w = am_run 208 0 [none, some (.ref a1), some (.int a2), none, none, none, none] [] w :=
  congrArg (fun l => am_run 208 0 l [] w) (bnr (ls := am_xp [.ref a0, .ref a1, .int a2] ++ List.replicate (am_ml 208 - (am_xp [.ref a0, .ref a1, .int a2]).length) none) (ls' := [none, some (.ref a1), some (.int a2), none, none, none, none]) bf208_0 rfl)
theorem bx209 {w : am_Wd} {a0 : Nat} {a1 : Int32} : am_x 209 [.ref a0, .int a1] w = am_run 209 0 [some (.ref a0), some (.int a1), none, none, none] [] w :=
  congrArg (fun l => am_run 209 0 l [] w) (bnr (ls := am_xp [.ref a0, .int a1] ++ List.replicate (am_ml 209 - (am_xp [.ref a0, .int a1]).length) none) (ls' := [some (.ref a0), some (.int a1), none, none, none]) bf209_0 rfl)
theorem bx210 {w : am_Wd} {a0 : Nat} {a1 : Int32} {a2 : Int32} : am_x 210 [.ref a0, .int a1, .int a2] w = am_run 210 0 [some (.ref a0), some (.int a1), some (.int a2), none, none] [] w :=
  congrArg (fun l => am_run 210 0 l [] w) (bnr (ls := am_xp [.ref a0, .int a1, .int a2] ++ List.replicate (am_ml 210 - (am_xp [.ref a0, .int a1, .int a2]).length) none) (ls' := [some (.ref a0), some (.int a1), some (.int a2), none, none]) bf210_0 rfl)
theorem bx211 {w : am_Wd} {a0 : Nat} {a1 : Int32} : am_x 211 [.ref a0, .int a1] w = am_run 211 0 [some (.ref a0), some (.int a1), none, none, none, none] [] w :=
  congrArg (fun l => am_run 211 0 l [] w) (bnr (ls := am_xp [.ref a0, .int a1] ++ List.replicate (am_ml 211 - (am_xp [.ref a0, .int a1]).length) none) (ls' := [some (.ref a0), some (.int a1), none, none, none, none]) bf211_0 rfl)
theorem bx212 {w : am_Wd} {a0 : Nat} {a1 : Int32} {a2 : Int32} {a3 : Int32} : am_x 212 [.ref a0, .int a1, .int a2, .int a3] w = am_run 212 0 [some (.ref a0), some (.int a1), some (.int a2), some (.int a3)] [] w :=
  congrArg (fun l => am_run 212 0 l [] w) (bnr (ls := am_xp [.ref a0, .int a1, .int a2, .int a3] ++ List.replicate (am_ml 212 - (am_xp [.ref a0, .int a1, .int a2, .int a3]).length) none) (ls' := [some (.ref a0), some (.int a1), some (.int a2), some (.int a3)]) bf212_0 rfl)
theorem bx213 {w : am_Wd} {a0 : Nat} {a1 : Int32} : am_x 213 [.ref a0, .int a1] w = am_run 213 0 [some (.ref a0), some (.int a1), none, none, none] [] w :=
  congrArg (fun l => am_run 213 0 l [] w) (bnr (ls := am_xp [.ref a0, .int a1] ++ List.replicate (am_ml 213 - (am_xp [.ref a0, .int a1]).length) none) (ls' := [some (.ref a0), some (.int a1), none, none, none]) bf213_0 rfl)
theorem bx214 {w : am_Wd} {a0 : Nat} {a1 : Int32} {a2 : Int32} {a3 : Int32} : am_x 214 [.ref a0, .int a1, .int a2, .int a3] w = am_run 214 0 [some (.ref a0), some (.int a1), some (.int a2), some (.int a3)] [] w :=
  congrArg (fun l => am_run 214 0 l [] w) (bnr (ls := am_xp [.ref a0, .int a1, .int a2, .int a3] ++ List.replicate (am_ml 214 - (am_xp [.ref a0, .int a1, .int a2, .int a3]).length) none) (ls' := [some (.ref a0), some (.int a1), some (.int a2), some (.int a3)]) bf214_0 rfl)
theorem bx215 {w : am_Wd} {a0 : Nat} : am_x 215 [.ref a0] w = am_run 215 0 [some (.ref a0)] [] w :=
  congrArg (fun l => am_run 215 0 l [] w) (bnr (ls := am_xp [.ref a0] ++ List.replicate (am_ml 215 - (am_xp [.ref a0]).length) none) (ls' := [some (.ref a0)]) bf215_0 rfl)
theorem bx216 {w : am_Wd} {a0 : Nat} {a1 : Int32} {a2 : Int32} {a3 : Int32} {a4 : Int32} {a5 : Nat} : am_x 216 [.ref a0, .int a1, .int a2, .int a3, .int a4, .ref a5] w = am_run 216 0 [some (.ref a0), some (.int a1), some (.int a2), some (.int a3), some (.int a4), some (.ref a5), none] [] w :=
  congrArg (fun l => am_run 216 0 l [] w) (bnr (ls := am_xp [.ref a0, .int a1, .int a2, .int a3, .int a4, .ref a5] ++ List.replicate (am_ml 216 - (am_xp [.ref a0, .int a1, .int a2, .int a3, .int a4, .ref a5]).length) none) (ls' := [some (.ref a0), some (.int a1), some (.int a2), some (.int a3), some (.int a4), some (.ref a5), none]) bf216_0 rfl)
theorem bx217 {w : am_Wd} {a0 : Nat} {a1 : Int32} {a2 : Int32} {a3 : Int32} {a4 : Int32} {a5 : Nat} : am_x 217 [.ref a0, .int a1, .int a2, .int a3, .int a4, .ref a5] w = am_run 217 0 [some (.ref a0), some (.int a1), some (.int a2), some (.int a3), some (.int a4), some (.ref a5), none] [] w :=
  congrArg (fun l => am_run 217 0 l [] w) (bnr (ls := am_xp [.ref a0, .int a1, .int a2, .int a3, .int a4, .ref a5] ++ List.replicate (am_ml 217 - (am_xp [.ref a0, .int a1, .int a2, .int a3, .int a4, .ref a5]).length) none) (ls' := [some (.ref a0), some (.int a1), some (.int a2), some (.int a3), some (.int a4), some (.ref a5), none]) bf217_0 rfl)
theorem bx218 {w : am_Wd} {a0 : Nat} {a1 : Int32} {a2 : Int32} {a3 : Nat} : am_x 218 [.ref a0, .int a1, .int a2, .ref a3] w = am_run 218 0 [some (.ref a0), some (.int a1), some (.int a2), some (.ref a3), none] [] w :=
  congrArg (fun l => am_run 218 0 l [] w) (bnr (ls := am_xp [.ref a0, .int a1, .int a2, .ref a3] ++ List.replicate (am_ml 218 - (am_xp [.ref a0, .int a1, .int a2, .ref a3]).length) none) (ls' := [some (.ref a0), some (.int a1), some (.int a2), some (.ref a3), none]) bf218_0 rfl)
theorem bx219 {w : am_Wd} {a0 : Nat} {a1 : Int32} {a2 : Int32} {a3 : Int32} {a4 : Nat} : am_x 219 [.ref a0, .int a1, .int a2, .int a3, .ref a4] w = am_run 219 0 [some (.ref a0), some (.int a1), some (.int a2), some (.int a3), some (.ref a4), none] [] w :=
  congrArg (fun l => am_run 219 0 l [] w) (bnr (ls := am_xp [.ref a0, .int a1, .int a2, .int a3, .ref a4] ++ List.replicate (am_ml 219 - (am_xp [.ref a0, .int a1, .int a2, .int a3, .ref a4]).length) none) (ls' := [some (.ref a0), some (.int a1), some (.int a2), some (.int a3), some (.ref a4), none]) bf219_0 rfl)
theorem bx220 {w : am_Wd} {a0 : Nat} {a1 : Int32} {a2 : Int32} {a3 : Nat} : am_x 220 [.ref a0, .int a1, .int a2, .ref a3] w = am_run 220 0 [some (.ref a0), some (.int a1), some (.int a2), some (.ref a3), none] [] w :=
  congrArg (fun l => am_run 220 0 l [] w) (bnr (ls := am_xp [.ref a0, .int a1, .int a2, .ref a3] ++ List.replicate (am_ml 220 - (am_xp [.ref a0, .int a1, .int a2, .ref a3]).length) none) (ls' := [some (.ref a0), some (.int a1), some (.int a2), some (.ref a3), none]) bf220_0 rfl)
theorem bx223 {w : am_Wd} {a0 : Nat} {a1 : Int32} {a2 : Int32} : am_x 223 [.ref a0, .int a1, .int a2] w = am_run 223 0 [some (.ref a0), some (.int a1), some (.int a2), none] [] w :=
  congrArg (fun l => am_run 223 0 l [] w) (bnr (ls := am_xp [.ref a0, .int a1, .int a2] ++ List.replicate (am_ml 223 - (am_xp [.ref a0, .int a1, .int a2]).length) none) (ls' := [some (.ref a0), some (.int a1), some (.int a2), none]) bf223_0 rfl)
theorem bx224 {w : am_Wd} {a0 : Nat} : am_x 224 [.ref a0] w = am_run 224 0 [some (.ref a0), none, none] [] w :=
  congrArg (fun l => am_run 224 0 l [] w) (bnr (ls := am_xp [.ref a0] ++ List.replicate (am_ml 224 - (am_xp [.ref a0]).length) none) (ls' := [some (.ref a0), none, none]) bf224_0 rfl)
theorem bx225 {w : am_Wd} {a0 : Nat} {a1 : Nat} {a2 : Int32} : am_x 225 [.ref a0, .ref a1, .int a2] w = am_run 225 0 [some (.ref a0), some (.ref a1), some (.int a2)] [] w :=
  congrArg (fun l => am_run 225 0 l [] w) (bnr (ls := am_xp [.ref a0, .ref a1, .int a2] ++ List.replicate (am_ml 225 - (am_xp [.ref a0, .ref a1, .int a2]).length) none) (ls' := [some (.ref a0), some (.ref a1), some (.int a2)]) bf225_0 rfl)
theorem bx226 {w : am_Wd} {a0 : Nat} {a1 : Nat} : am_x 226 [.ref a0, .ref a1] w = am_run 226 0 [some (.ref a0), some (.ref a1)] [] w :=
  congrArg (fun l => am_run 226 0 l [] w) (bnr (ls := am_xp [.ref a0, .ref a1] ++ List.replicate (am_ml 226 - (am_xp [.ref a0, .ref a1]).length) none) (ls' := [some (.ref a0), some (.ref a1)]) bf226_0 rfl)
theorem bx227 {w : am_Wd} {a0 : Nat} {a1 : Int32} : am_x 227 [.ref a0, .int a1] w = am_run 227 0 [some (.ref a0), some (.int a1)] [] w :=
  congrArg (fun l => am_run 227 0 l [] w) (bnr (ls := am_xp [.ref a0, .int a1] ++ List.replicate (am_ml 227 - (am_xp [.ref a0, .int a1]).length) none) (ls' := [some (.ref a0), some (.int a1)]) bf227_0 rfl)
theorem bx228 {w : am_Wd} {a0 : Nat} {a1 : Int32} {a2 : Int32} {a3 : Int32} : am_x 228 [.ref a0, .int a1, .int a2, .int a3] w = am_run 228 0 [some (.ref a0), some (.int a1), some (.int a2), some (.int a3)] [] w :=
  congrArg (fun l => am_run 228 0 l [] w) (bnr (ls := am_xp [.ref a0, .int a1, .int a2, .int a3] ++ List.replicate (am_ml 228 - (am_xp [.ref a0, .int a1, .int a2, .int a3]).length) none) (ls' := [some (.ref a0), some (.int a1), some (.int a2), some (.int a3)]) bf228_0 rfl)
theorem bx229 {w : am_Wd} {a0 : Nat} {a1 : Nat} : am_x 229 [.ref a0, .ref a1] w = am_run 229 0 [some (.ref a0), some (.ref a1), none, none, none, none, none] [] w :=
  congrArg (fun l => am_run 229 0 l [] w) (bnr (ls := am_xp [.ref a0, .ref a1] ++ List.replicate (am_ml 229 - (am_xp [.ref a0, .ref a1]).length) none) (ls' := [some (.ref a0), some (.ref a1), none, none, none, none, none]) bf229_0 rfl)
theorem bx230 {w : am_Wd} {a0 : Nat} {a1 : Nat} {a2 : Int32} : am_x 230 [.ref a0, .ref a1, .int a2] w = am_run 230 0 [none, some (.ref a1), some (.int a2), none, none] [] w :=
  congrArg (fun l => am_run 230 0 l [] w) (bnr (ls := am_xp [.ref a0, .ref a1, .int a2] ++ List.replicate (am_ml 230 - (am_xp [.ref a0, .ref a1, .int a2]).length) none) (ls' := [none, some (.ref a1), some (.int a2), none, none]) bf230_0 rfl)
theorem bx231 {w : am_Wd} {a0 : Nat} {a1 : Int32} {a2 : Int32} : am_x 231 [.ref a0, .int a1, .int a2] w = am_run 231 0 [some (.ref a0), some (.int a1), some (.int a2)] [] w :=
  congrArg (fun l => am_run 231 0 l [] w) (bnr (ls := am_xp [.ref a0, .int a1, .int a2] ++ List.replicate (am_ml 231 - (am_xp [.ref a0, .int a1, .int a2]).length) none) (ls' := [some (.ref a0), some (.int a1), some (.int a2)]) bf231_0 rfl)
theorem bx232 {w : am_Wd} {a0 : Nat} {a1 : Int32} {a2 : Int32} : am_x 232 [.ref a0, .int a1, .int a2] w = am_run 232 0 [some (.ref a0), some (.int a1), some (.int a2)] [] w :=
  congrArg (fun l => am_run 232 0 l [] w) (bnr (ls := am_xp [.ref a0, .int a1, .int a2] ++ List.replicate (am_ml 232 - (am_xp [.ref a0, .int a1, .int a2]).length) none) (ls' := [some (.ref a0), some (.int a1), some (.int a2)]) bf232_0 rfl)
theorem bx233 {w : am_Wd} {a0 : Nat} {a1 : Int32} {a2 : Nat} : am_x 233 [.ref a0, .int a1, .ref a2] w = am_run 233 0 [some (.ref a0), some (.int a1), some (.ref a2), none] [] w :=
  congrArg (fun l => am_run 233 0 l [] w) (bnr (ls := am_xp [.ref a0, .int a1, .ref a2] ++ List.replicate (am_ml 233 - (am_xp [.ref a0, .int a1, .ref a2]).length) none) (ls' := [some (.ref a0), some (.int a1), some (.ref a2), none]) bf233_0 rfl)
theorem bx234 {w : am_Wd} {a0 : Nat} {a1 : Int32} {a2 : Int32} {a3 : Nat} : am_x 234 [.ref a0, .int a1, .int a2, .ref a3] w = am_run 234 0 [some (.ref a0), some (.int a1), some (.int a2), some (.ref a3), none] [] w :=
  congrArg (fun l => am_run 234 0 l [] w) (bnr (ls := am_xp [.ref a0, .int a1, .int a2, .ref a3] ++ List.replicate (am_ml 234 - (am_xp [.ref a0, .int a1, .int a2, .ref a3]).length) none) (ls' := [some (.ref a0), some (.int a1), some (.int a2), some (.ref a3), none]) bf234_0 rfl)
theorem bx235 {w : am_Wd} {a0 : Nat} {a1 : Int32} {a2 : Int32} {a3 : Nat} : am_x 235 [.ref a0, .int a1, .int a2, .ref a3] w = am_run 235 0 [some (.ref a0), some (.int a1), some (.int a2), some (.ref a3), none] [] w :=
  congrArg (fun l => am_run 235 0 l [] w) (bnr (ls := am_xp [.ref a0, .int a1, .int a2, .ref a3] ++ List.replicate (am_ml 235 - (am_xp [.ref a0, .int a1, .int a2, .ref a3]).length) none) (ls' := [some (.ref a0), some (.int a1), some (.int a2), some (.ref a3), none]) bf235_0 rfl)
theorem bx236 {w : am_Wd} {a0 : Nat} {a1 : Int32} {a2 : Nat} : am_x 236 [.ref a0, .int a1, .ref a2] w = am_run 236 0 [some (.ref a0), some (.int a1), some (.ref a2), none] [] w :=
  congrArg (fun l => am_run 236 0 l [] w) (bnr (ls := am_xp [.ref a0, .int a1, .ref a2] ++ List.replicate (am_ml 236 - (am_xp [.ref a0, .int a1, .ref a2]).length) none) (ls' := [some (.ref a0), some (.int a1), some (.ref a2), none]) bf236_0 rfl)
theorem bx237 {w : am_Wd} {a0 : Nat} {a1 : Int32} {a2 : Int32} {a3 : Nat} : am_x 237 [.ref a0, .int a1, .int a2, .ref a3] w = am_run 237 0 [some (.ref a0), some (.int a1), some (.int a2), some (.ref a3), none] [] w :=
  congrArg (fun l => am_run 237 0 l [] w) (bnr (ls := am_xp [.ref a0, .int a1, .int a2, .ref a3] ++ List.replicate (am_ml 237 - (am_xp [.ref a0, .int a1, .int a2, .ref a3]).length) none) (ls' := [some (.ref a0), some (.int a1), some (.int a2), some (.ref a3), none]) bf237_0 rfl)
theorem bx239 {w : am_Wd} {a0 : Nat} {a1 : Int32} {a2 : Int32} : am_x 239 [.ref a0, .int a1, .int a2] w = am_run 239 0 [some (.ref a0), some (.int a1), some (.int a2), none, none] [] w :=
  congrArg (fun l => am_run 239 0 l [] w) (bnr (ls := am_xp [.ref a0, .int a1, .int a2] ++ List.replicate (am_ml 239 - (am_xp [.ref a0, .int a1, .int a2]).length) none) (ls' := [some (.ref a0), some (.int a1), some (.int a2), none, none]) bf239_0 rfl)
theorem bx240 {w : am_Wd} {a0 : Nat} {a1 : Int32} {a2 : Int32} {a3 : Int32} : am_x 240 [.ref a0, .int a1, .int a2, .int a3] w = am_run 240 0 [some (.ref a0), some (.int a1), some (.int a2), some (.int a3), none] [] w :=
  congrArg (fun l => am_run 240 0 l [] w) (bnr (ls := am_xp [.ref a0, .int a1, .int a2, .int a3] ++ List.replicate (am_ml 240 - (am_xp [.ref a0, .int a1, .int a2, .int a3]).length) none) (ls' := [some (.ref a0), some (.int a1), some (.int a2), some (.int a3), none]) bf240_0 rfl)
theorem bx241 {w : am_Wd} {a0 : Nat} {a1 : Int32} {a2 : Int32} : am_x 241 [.ref a0, .int a1, .int a2] w = am_run 241 0 [some (.ref a0), some (.int a1), some (.int a2), none, none] [] w :=
  congrArg (fun l => am_run 241 0 l [] w) (bnr (ls := am_xp [.ref a0, .int a1, .int a2] ++ List.replicate (am_ml 241 - (am_xp [.ref a0, .int a1, .int a2]).length) none) (ls' := [some (.ref a0), some (.int a1), some (.int a2), none, none]) bf241_0 rfl)
theorem bx242 {w : am_Wd} {a0 : Nat} {a1 : Int32} {a2 : Int32} : am_x 242 [.ref a0, .int a1, .int a2] w = am_run 242 0 [some (.ref a0), some (.int a1), some (.int a2), none, none, none, none] [] w :=
  congrArg (fun l => am_run 242 0 l [] w) (bnr (ls := am_xp [.ref a0, .int a1, .int a2] ++ List.replicate (am_ml 242 - (am_xp [.ref a0, .int a1, .int a2]).length) none) (ls' := [some (.ref a0), some (.int a1), some (.int a2), none, none, none, none]) bf242_0 rfl)
theorem bx243 {w : am_Wd} {a0 : Nat} {a1 : Int32} : am_x 243 [.ref a0, .int a1] w = am_run 243 0 [some (.ref a0), some (.int a1), none, none, none] [] w :=
  congrArg (fun l => am_run 243 0 l [] w) (bnr (ls := am_xp [.ref a0, .int a1] ++ List.replicate (am_ml 243 - (am_xp [.ref a0, .int a1]).length) none) (ls' := [some (.ref a0), some (.int a1), none, none, none]) bf243_0 rfl)
theorem bx244 {w : am_Wd} {a0 : Nat} {a1 : Int64} {a2 : Int32} : am_x 244 [.ref a0, .long a1, .int a2] w = am_run 244 0 [some (.ref a0), some (.long a1), none, some (.int a2), none, none, none] [] w :=
  congrArg (fun l => am_run 244 0 l [] w) (bnr (ls := am_xp [.ref a0, .long a1, .int a2] ++ List.replicate (am_ml 244 - (am_xp [.ref a0, .long a1, .int a2]).length) none) (ls' := [some (.ref a0), some (.long a1), none, some (.int a2), none, none, none]) bf244_0 rfl)
theorem bx245 {w : am_Wd} {a0 : Nat} {a1 : Nat} : am_x 245 [.ref a0, .ref a1] w = am_run 245 0 [some (.ref a0), some (.ref a1)] [] w :=
  congrArg (fun l => am_run 245 0 l [] w) (bnr (ls := am_xp [.ref a0, .ref a1] ++ List.replicate (am_ml 245 - (am_xp [.ref a0, .ref a1]).length) none) (ls' := [some (.ref a0), some (.ref a1)]) bf245_0 rfl)
theorem bx246 {w : am_Wd} {a0 : Nat} {a1 : Int32} : am_x 246 [.ref a0, .int a1] w = am_run 246 0 [some (.ref a0), some (.int a1), none, none, none, none] [] w :=
  congrArg (fun l => am_run 246 0 l [] w) (bnr (ls := am_xp [.ref a0, .int a1] ++ List.replicate (am_ml 246 - (am_xp [.ref a0, .int a1]).length) none) (ls' := [some (.ref a0), some (.int a1), none, none, none, none]) bf246_0 rfl)
theorem bx247 {w : am_Wd} {a0 : Nat} {a1 : Int32} {a2 : Int32} : am_x 247 [.ref a0, .int a1, .int a2] w = am_run 247 0 [some (.ref a0), some (.int a1), some (.int a2)] [] w :=
  congrArg (fun l => am_run 247 0 l [] w) (bnr (ls := am_xp [.ref a0, .int a1, .int a2] ++ List.replicate (am_ml 247 - (am_xp [.ref a0, .int a1, .int a2]).length) none) (ls' := [some (.ref a0), some (.int a1), some (.int a2)]) bf247_0 rfl)
theorem bx248 {w : am_Wd} {a0 : Nat} {a1 : Nat} : am_x 248 [.ref a0, .ref a1] w = am_run 248 0 [some (.ref a0), some (.ref a1), none, none] [] w :=
  congrArg (fun l => am_run 248 0 l [] w) (bnr (ls := am_xp [.ref a0, .ref a1] ++ List.replicate (am_ml 248 - (am_xp [.ref a0, .ref a1]).length) none) (ls' := [some (.ref a0), some (.ref a1), none, none]) bf248_0 rfl)
theorem bx249 {w : am_Wd} {a0 : Nat} {a1 : Int32} {a2 : Int32} {a3 : Nat} : am_x 249 [.ref a0, .int a1, .int a2, .ref a3] w = am_run 249 0 [some (.ref a0), some (.int a1), some (.int a2), some (.ref a3), none] [] w :=
  congrArg (fun l => am_run 249 0 l [] w) (bnr (ls := am_xp [.ref a0, .int a1, .int a2, .ref a3] ++ List.replicate (am_ml 249 - (am_xp [.ref a0, .int a1, .int a2, .ref a3]).length) none) (ls' := [some (.ref a0), some (.int a1), some (.int a2), some (.ref a3), none]) bf249_0 rfl)
theorem bx250 {w : am_Wd} {a0 : Nat} : am_x 250 [.ref a0] w = am_run 250 0 [some (.ref a0), none, none, none, none] [] w :=
  congrArg (fun l => am_run 250 0 l [] w) (bnr (ls := am_xp [.ref a0] ++ List.replicate (am_ml 250 - (am_xp [.ref a0]).length) none) (ls' := [some (.ref a0), none, none, none, none]) bf250_0 rfl)
theorem bx251 {w : am_Wd} {a0 : Nat} {a1 : Nat} : am_x 251 [.ref a0, .ref a1] w = am_run 251 0 [some (.ref a0), some (.ref a1)] [] w :=
  congrArg (fun l => am_run 251 0 l [] w) (bnr (ls := am_xp [.ref a0, .ref a1] ++ List.replicate (am_ml 251 - (am_xp [.ref a0, .ref a1]).length) none) (ls' := [some (.ref a0), some (.ref a1)]) bf251_0 rfl)
theorem bx252 {w : am_Wd} {a0 : Nat} {a1 : Int32} : am_x 252 [.ref a0, .int a1] w = am_run 252 0 [some (.ref a0), some (.int a1)] [] w :=
  congrArg (fun l => am_run 252 0 l [] w) (bnr (ls := am_xp [.ref a0, .int a1] ++ List.replicate (am_ml 252 - (am_xp [.ref a0, .int a1]).length) none) (ls' := [some (.ref a0), some (.int a1)]) bf252_0 rfl)
theorem bx253 {w : am_Wd} {a0 : Nat} {a1 : Int32} {a2 : Int32} {a3 : Nat} : am_x 253 [.ref a0, .int a1, .int a2, .ref a3] w = am_run 253 0 [some (.ref a0), some (.int a1), some (.int a2), some (.ref a3), none] [] w :=
  congrArg (fun l => am_run 253 0 l [] w) (bnr (ls := am_xp [.ref a0, .int a1, .int a2, .ref a3] ++ List.replicate (am_ml 253 - (am_xp [.ref a0, .int a1, .int a2, .ref a3]).length) none) (ls' := [some (.ref a0), some (.int a1), some (.int a2), some (.ref a3), none]) bf253_0 rfl)
theorem bx254 {w : am_Wd} {a0 : Nat} {a1 : Int32} {a2 : Int32} {a3 : Int32} {a4 : Nat} : am_x 254 [.ref a0, .int a1, .int a2, .int a3, .ref a4] w = am_run 254 0 [some (.ref a0), some (.int a1), some (.int a2), some (.int a3), some (.ref a4), none] [] w :=
  congrArg (fun l => am_run 254 0 l [] w) (bnr (ls := am_xp [.ref a0, .int a1, .int a2, .int a3, .ref a4] ++ List.replicate (am_ml 254 - (am_xp [.ref a0, .int a1, .int a2, .int a3, .ref a4]).length) none) (ls' := [some (.ref a0), some (.int a1), some (.int a2), some (.int a3), some (.ref a4), none]) bf254_0 rfl)
theorem bx255 {w : am_Wd} {a0 : Nat} {a1 : Int32} {a2 : Int32} {a3 : Nat} : am_x 255 [.ref a0, .int a1, .int a2, .ref a3] w = am_run 255 0 [some (.ref a0), some (.int a1), some (.int a2), some (.ref a3), none] [] w :=
  congrArg (fun l => am_run 255 0 l [] w) (bnr (ls := am_xp [.ref a0, .int a1, .int a2, .ref a3] ++ List.replicate (am_ml 255 - (am_xp [.ref a0, .int a1, .int a2, .ref a3]).length) none) (ls' := [some (.ref a0), some (.int a1), some (.int a2), some (.ref a3), none]) bf255_0 rfl)
theorem bx256 {w : am_Wd} {a0 : Nat} {a1 : Int32} {a2 : Int32} {a3 : Nat} : am_x 256 [.ref a0, .int a1, .int a2, .ref a3] w = am_run 256 0 [some (.ref a0), some (.int a1), some (.int a2), some (.ref a3), none] [] w :=
  congrArg (fun l => am_run 256 0 l [] w) (bnr (ls := am_xp [.ref a0, .int a1, .int a2, .ref a3] ++ List.replicate (am_ml 256 - (am_xp [.ref a0, .int a1, .int a2, .ref a3]).length) none) (ls' := [some (.ref a0), some (.int a1), some (.int a2), some (.ref a3), none]) bf256_0 rfl)
theorem bx257 {w : am_Wd} {a0 : Nat} {a1 : Int32} {a2 : Nat} : am_x 257 [.ref a0, .int a1, .ref a2] w = am_run 257 0 [some (.ref a0), some (.int a1), some (.ref a2), none] [] w :=
  congrArg (fun l => am_run 257 0 l [] w) (bnr (ls := am_xp [.ref a0, .int a1, .ref a2] ++ List.replicate (am_ml 257 - (am_xp [.ref a0, .int a1, .ref a2]).length) none) (ls' := [some (.ref a0), some (.int a1), some (.ref a2), none]) bf257_0 rfl)
theorem bx258 {w : am_Wd} {a0 : Nat} {a1 : Nat} {a2 : Int32} : am_x 258 [.ref a0, .ref a1, .int a2] w = am_run 258 0 [some (.ref a0), some (.ref a1), some (.int a2)] [] w :=
  congrArg (fun l => am_run 258 0 l [] w) (bnr (ls := am_xp [.ref a0, .ref a1, .int a2] ++ List.replicate (am_ml 258 - (am_xp [.ref a0, .ref a1, .int a2]).length) none) (ls' := [some (.ref a0), some (.ref a1), some (.int a2)]) bf258_0 rfl)
theorem bx259 {w : am_Wd} {a0 : Nat} {a1 : Nat} {a2 : Int32} : am_x 259 [.ref a0, .ref a1, .int a2] w = am_run 259 0 [some (.ref a0), some (.ref a1), some (.int a2)] [] w :=
  congrArg (fun l => am_run 259 0 l [] w) (bnr (ls := am_xp [.ref a0, .ref a1, .int a2] ++ List.replicate (am_ml 259 - (am_xp [.ref a0, .ref a1, .int a2]).length) none) (ls' := [some (.ref a0), some (.ref a1), some (.int a2)]) bf259_0 rfl)
theorem bx260 {w : am_Wd} {a0 : Nat} {a1 : Int32} {a2 : Int32} : am_x 260 [.ref a0, .int a1, .int a2] w = am_run 260 0 [some (.ref a0), some (.int a1), some (.int a2), none, none, none, none, none, none, none] [] w :=
  congrArg (fun l => am_run 260 0 l [] w) (bnr (ls := am_xp [.ref a0, .int a1, .int a2] ++ List.replicate (am_ml 260 - (am_xp [.ref a0, .int a1, .int a2]).length) none) (ls' := [some (.ref a0), some (.int a1), some (.int a2), none, none, none, none, none, none, none]) bf260_0 rfl)
theorem bx261 {w : am_Wd} {a0 : Nat} {a1 : Int32} {a2 : Int32} {a3 : Int32} : am_x 261 [.ref a0, .int a1, .int a2, .int a3] w = am_run 261 0 [some (.ref a0), some (.int a1), some (.int a2), some (.int a3), none, none, none, none] [] w :=
  congrArg (fun l => am_run 261 0 l [] w) (bnr (ls := am_xp [.ref a0, .int a1, .int a2, .int a3] ++ List.replicate (am_ml 261 - (am_xp [.ref a0, .int a1, .int a2, .int a3]).length) none) (ls' := [some (.ref a0), some (.int a1), some (.int a2), some (.int a3), none, none, none, none]) bf261_0 rfl)
theorem bx262 {w : am_Wd} {a0 : Nat} {a1 : Int32} {a2 : Int32} : am_x 262 [.ref a0, .int a1, .int a2] w = am_run 262 0 [some (.ref a0), some (.int a1), some (.int a2), none, none, none, none] [] w :=
  congrArg (fun l => am_run 262 0 l [] w) (bnr (ls := am_xp [.ref a0, .int a1, .int a2] ++ List.replicate (am_ml 262 - (am_xp [.ref a0, .int a1, .int a2]).length) none) (ls' := [some (.ref a0), some (.int a1), some (.int a2), none, none, none, none]) bf262_0 rfl)
theorem bx263 {w : am_Wd} {a0 : Nat} {a1 : Int32} {a2 : Int32} : am_x 263 [.ref a0, .int a1, .int a2] w = am_run 263 0 [some (.ref a0), some (.int a1), some (.int a2), none, none, none, none] [] w :=
  congrArg (fun l => am_run 263 0 l [] w) (bnr (ls := am_xp [.ref a0, .int a1, .int a2] ++ List.replicate (am_ml 263 - (am_xp [.ref a0, .int a1, .int a2]).length) none) (ls' := [some (.ref a0), some (.int a1), some (.int a2), none, none, none, none]) bf263_0 rfl)
theorem bx264 {w : am_Wd} {a0 : Nat} {a1 : Int32} {a2 : Int32} : am_x 264 [.ref a0, .int a1, .int a2] w = am_run 264 0 [some (.ref a0), some (.int a1), some (.int a2)] [] w :=
  congrArg (fun l => am_run 264 0 l [] w) (bnr (ls := am_xp [.ref a0, .int a1, .int a2] ++ List.replicate (am_ml 264 - (am_xp [.ref a0, .int a1, .int a2]).length) none) (ls' := [some (.ref a0), some (.int a1), some (.int a2)]) bf264_0 rfl)
theorem bx265 {w : am_Wd} {a0 : Nat} : am_x 265 [.ref a0] w = am_run 265 0 [some (.ref a0), none, none, none, none, none, none] [] w :=
  congrArg (fun l => am_run 265 0 l [] w) (bnr (ls := am_xp [.ref a0] ++ List.replicate (am_ml 265 - (am_xp [.ref a0]).length) none) (ls' := [some (.ref a0), none, none, none, none, none, none]) bf265_0 rfl)
theorem bx266 {w : am_Wd} {a0 : Nat} : am_x 266 [.ref a0] w = am_run 266 0 [some (.ref a0)] [] w :=
  congrArg (fun l => am_run 266 0 l [] w) (bnr (ls := am_xp [.ref a0] ++ List.replicate (am_ml 266 - (am_xp [.ref a0]).length) none) (ls' := [some (.ref a0)]) bf266_0 rfl)
theorem bx269 {w : am_Wd} {a0 : Nat} : am_x 269 [.ref a0] w = am_run 269 0 [some (.ref a0), none, none, none, none, none, none, none] [] w :=
  congrArg (fun l => am_run 269 0 l [] w) (bnr (ls := am_xp [.ref a0] ++ List.replicate (am_ml 269 - (am_xp [.ref a0]).length) none) (ls' := [some (.ref a0), none, none, none, none, none, none, none]) bf269_0 rfl)
theorem bx58n {w : am_Wd} {a0 : Int32} {a1 : Int32} : am_x 58 [.int a0, .int a1, .null] w = am_run 58 0 [some (.int a0), some (.int a1), some (.null)] [] w :=
  congrArg (fun l => am_run 58 0 l [] w) (bnr (ls := am_xp [.int a0, .int a1, .null] ++ List.replicate (am_ml 58 - (am_xp [.int a0, .int a1, .null]).length) none) (ls' := [some (.int a0), some (.int a1), some (.null)]) bf58_0 rfl)
