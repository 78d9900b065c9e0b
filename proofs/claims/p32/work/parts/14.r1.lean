/-! RULES, on (laid by wip/gen/rules.py). Mine. -/
theorem bf0_0 : am_fetch (am_mth 0) 0 = some (.aload_n 0, 1, [], []) := by decide +kernel
theorem bf0_1 : am_fetch (am_mth 0) 1 = some (.invokespecial 3, 3, [1, 286, 37, 38], []) := by decide +kernel
theorem bf0_4 : am_fetch (am_mth 0) 4 = some (.aload_n 0, 1, [], []) := by decide +kernel
theorem bf0_5 : am_fetch (am_mth 0) 5 = some (.iconst 4, 1, [], [0]) := by decide +kernel
theorem bf0_6 : am_fetch (am_mth 0) 6 = some (.newarray .long, 2, [1, 280], [0]) := by decide +kernel
theorem bf0_8 : am_fetch (am_mth 0) 8 = some (.putfield 9, 3, [0, 4, 0, 287], [0]) := by decide +kernel
theorem bf0_11 : am_fetch (am_mth 0) 11 = some (.return_, 1, [], [0]) := by decide +kernel
theorem bk0_0 {w : am_Wd} {l0 : Nat} : am_run 0 0 [some (.ref l0)] [] w = (am_na w 1 (nI 4)).bind fun w' => am_run 0 8 [none] (.ref w.2.1 :: [.ref l0]) w' := by
  refine (bu (ls'' := [some (.ref l0)]) (st' := [.ref l0]) bf0_0 bf0_1 rfl rfl).trans ?_
  refine (bu (ls'' := [some (.ref l0)]) (st' := []) bf0_1 bf0_4 rfl rfl).trans ?_
  refine (bu (ls'' := [none]) (st' := [.ref l0]) bf0_4 bf0_5 rfl rfl).trans ?_
  refine (bu (ls'' := [none]) (st' := [.int (nI 4), .ref l0]) bf0_5 bf0_6 rfl rfl).trans ?_
  exact bh bf0_6 bf0_8 rfl (bge_na) rfl
theorem bk0_8 {w : am_Wd} {s0 : Nat} {s1 : Nat} : am_run 0 8 [none] [.ref s0, .ref s1] w = (am_pf w s1 4 0 (.ref s0)).bind fun w' => am_run 0 11 [none] [] w' := by
  exact bh bf0_8 bf0_11 rfl (bge_pf) rfl
theorem bk0_11 {w : am_Wd}  : am_run 0 11 [none] [] w = some (.inl none, w) := by
  exact am_e2 bf0_11 rfl (am_ge_rf w)
theorem bf1_0 : am_fetch (am_mth 1) 0 = some (.iconst 0, 1, [], [1]) := by decide +kernel
theorem bf1_1 : am_fetch (am_mth 1) 1 = some (.istore_n 1, 1, [], [1]) := by decide +kernel
theorem bf1_2 : am_fetch (am_mth 1) 2 = some (.iload_n 1, 1, [], []) := by decide +kernel
theorem bf1_3 : am_fetch (am_mth 1) 3 = some (.iconst 4, 1, [], []) := by decide +kernel
theorem bf1_4 : am_fetch (am_mth 1) 4 = some (.if_icmp .ge 18, 3, [], []) := by decide +kernel
theorem bf1_7 : am_fetch (am_mth 1) 7 = some (.aload_n 0, 1, [], []) := by decide +kernel
theorem bf1_8 : am_fetch (am_mth 1) 8 = some (.getfield 9, 3, [0, 4, 0, 287], []) := by decide +kernel
theorem bf1_11 : am_fetch (am_mth 1) 11 = some (.iload_n 1, 1, [], []) := by decide +kernel
theorem bf1_12 : am_fetch (am_mth 1) 12 = some (.ldc2_w 17, 3, [0, 68719476735, 300], []) := by decide +kernel
theorem bf1_15 : am_fetch (am_mth 1) 15 = some (.lastore, 1, [], []) := by decide +kernel
theorem bf1_16 : am_fetch (am_mth 1) 16 = some (.iinc 1 1, 3, [], []) := by decide +kernel
theorem bf1_19 : am_fetch (am_mth 1) 19 = some (.goto (-17), 3, [], []) := by decide +kernel
theorem bf1_22 : am_fetch (am_mth 1) 22 = some (.return_, 1, [], [0, 1]) := by decide +kernel
theorem bk1_0 {w : am_Wd} {l0 : Nat} : am_run 1 0 [some (.ref l0), none] [] w = am_run 1 2 [some (.ref l0), some (.int (nI 0))] [] w := by
  refine (bu (ls'' := [some (.ref l0), none]) (st' := [.int (nI 0)]) bf1_0 bf1_1 rfl rfl).trans ?_
  refine (bu (ls'' := [some (.ref l0), some (.int (nI 0))]) (st' := []) bf1_1 bf1_2 rfl rfl).trans ?_
  rfl
theorem bk1_2 {w : am_Wd} {l0 : Nat} {l1 : Int32} : am_run 1 2 [some (.ref l0), some (.int l1)] [] w = if (nI 4) ≤ l1 then am_run 1 22 [none, none] [] w else am_run 1 7 [some (.ref l0), some (.int l1)] [] w := by
  refine (bu (ls'' := [some (.ref l0), some (.int l1)]) (st' := [.int l1]) bf1_2 bf1_3 rfl rfl).trans ?_
  refine (bu (ls'' := [some (.ref l0), some (.int l1)]) (st' := [.int (nI 4), .int l1]) bf1_3 bf1_4 rfl rfl).trans ?_
  exact bic bf1_4 rfl bf1_22 bf1_7 rfl rfl rfl
theorem bk1_22 {w : am_Wd}  : am_run 1 22 [none, none] [] w = some (.inl none, w) := by
  exact am_e2 bf1_22 rfl (am_ge_rf w)
theorem bk1_7 {w : am_Wd} {l0 : Nat} {l1 : Int32} : am_run 1 7 [some (.ref l0), some (.int l1)] [] w = (am_gf w l0 4 0).bind fun v => am_run 1 11 [some (.ref l0), some (.int l1)] (v :: []) w := by
  refine (bu (ls'' := [some (.ref l0), some (.int l1)]) (st' := [.ref l0]) bf1_7 bf1_8 rfl rfl).trans ?_
  exact bh bf1_8 bf1_11 rfl (fun _ _ => am_ge_rf w) rfl
theorem bk1_11 {w : am_Wd} {l0 : Nat} {l1 : Int32} {s0 : Nat} : am_run 1 11 [some (.ref l0), some (.int l1)] [.ref s0] w = (am_wl w s0 l1 (lN 68719476735)).bind fun w' => am_run 1 16 [some (.ref l0), some (.int l1)] [] w' := by
  refine (bu (ls'' := [some (.ref l0), some (.int l1)]) (st' := [.int l1, .ref s0]) bf1_11 bf1_12 rfl rfl).trans ?_
  refine (bu (ls'' := [some (.ref l0), some (.int l1)]) (st' := [.long (lN 68719476735), .int l1, .ref s0]) bf1_12 bf1_15 rfl rfl).trans ?_
  exact bh bf1_15 bf1_16 rfl (bge_wl) rfl
theorem bk1_16 {w : am_Wd} {l0 : Nat} {l1 : Int32} : am_run 1 16 [some (.ref l0), some (.int l1)] [] w = am_run 1 2 [some (.ref l0), some (.int (l1 + (nI 1)))] [] w := by
  refine (bu (ls'' := [some (.ref l0), some (.int (l1 + (nI 1)))]) (st' := []) bf1_16 bf1_19 rfl rfl).trans ?_
  refine (bu (ls'' := [some (.ref l0), some (.int (l1 + (nI 1)))]) (st' := []) bf1_19 bf1_2 rfl rfl).trans ?_
  rfl
theorem bf2_0 : am_fetch (am_mth 2) 0 = some (.iconst 0, 1, [], [2]) := by decide +kernel
theorem bf2_1 : am_fetch (am_mth 2) 1 = some (.istore_n 2, 1, [], [2]) := by decide +kernel
theorem bf2_2 : am_fetch (am_mth 2) 2 = some (.iload_n 2, 1, [], []) := by decide +kernel
theorem bf2_3 : am_fetch (am_mth 2) 3 = some (.iconst 4, 1, [], []) := by decide +kernel
theorem bf2_4 : am_fetch (am_mth 2) 4 = some (.if_icmp .ge 31, 3, [], []) := by decide +kernel
theorem bf2_7 : am_fetch (am_mth 2) 7 = some (.aload_n 0, 1, [], []) := by decide +kernel
theorem bf2_8 : am_fetch (am_mth 2) 8 = some (.getfield 9, 3, [0, 4, 0, 287], []) := by decide +kernel
theorem bf2_11 : am_fetch (am_mth 2) 11 = some (.iload_n 2, 1, [], []) := by decide +kernel
theorem bf2_12 : am_fetch (am_mth 2) 12 = some (.iload_n 2, 1, [], []) := by decide +kernel
theorem bf2_13 : am_fetch (am_mth 2) 13 = some (.iload_n 1, 1, [], []) := by decide +kernel
theorem bf2_14 : am_fetch (am_mth 2) 14 = some (.iconst 4, 1, [], []) := by decide +kernel
theorem bf2_15 : am_fetch (am_mth 2) 15 = some (.irem, 1, [], []) := by decide +kernel
theorem bf2_16 : am_fetch (am_mth 2) 16 = some (.if_icmp .ne 11, 3, [], []) := by decide +kernel
theorem bf2_19 : am_fetch (am_mth 2) 19 = some (.lconst 1, 1, [], []) := by decide +kernel
theorem bf2_20 : am_fetch (am_mth 2) 20 = some (.iload_n 1, 1, [], []) := by decide +kernel
theorem bf2_21 : am_fetch (am_mth 2) 21 = some (.iconst 4, 1, [], []) := by decide +kernel
theorem bf2_22 : am_fetch (am_mth 2) 22 = some (.idiv, 1, [], []) := by decide +kernel
theorem bf2_23 : am_fetch (am_mth 2) 23 = some (.lshl, 1, [], []) := by decide +kernel
theorem bf2_24 : am_fetch (am_mth 2) 24 = some (.goto 4, 3, [], []) := by decide +kernel
theorem bf2_27 : am_fetch (am_mth 2) 27 = some (.lconst 0, 1, [], []) := by decide +kernel
theorem bf2_28 : am_fetch (am_mth 2) 28 = some (.lastore, 1, [], []) := by decide +kernel
theorem bf2_29 : am_fetch (am_mth 2) 29 = some (.iinc 2 1, 3, [], []) := by decide +kernel
theorem bf2_32 : am_fetch (am_mth 2) 32 = some (.goto (-30), 3, [], []) := by decide +kernel
theorem bf2_35 : am_fetch (am_mth 2) 35 = some (.return_, 1, [], [0, 1, 2]) := by decide +kernel
theorem bk2_0 {w : am_Wd} {l0 : Nat} {l1 : Int32} : am_run 2 0 [some (.ref l0), some (.int l1), none] [] w = am_run 2 2 [some (.ref l0), some (.int l1), some (.int (nI 0))] [] w := by
  refine (bu (ls'' := [some (.ref l0), some (.int l1), none]) (st' := [.int (nI 0)]) bf2_0 bf2_1 rfl rfl).trans ?_
  refine (bu (ls'' := [some (.ref l0), some (.int l1), some (.int (nI 0))]) (st' := []) bf2_1 bf2_2 rfl rfl).trans ?_
  rfl
theorem bk2_2 {w : am_Wd} {l0 : Nat} {l1 : Int32} {l2 : Int32} : am_run 2 2 [some (.ref l0), some (.int l1), some (.int l2)] [] w = if (nI 4) ≤ l2 then am_run 2 35 [none, none, none] [] w else am_run 2 7 [some (.ref l0), some (.int l1), some (.int l2)] [] w := by
  refine (bu (ls'' := [some (.ref l0), some (.int l1), some (.int l2)]) (st' := [.int l2]) bf2_2 bf2_3 rfl rfl).trans ?_
  refine (bu (ls'' := [some (.ref l0), some (.int l1), some (.int l2)]) (st' := [.int (nI 4), .int l2]) bf2_3 bf2_4 rfl rfl).trans ?_
  exact bic bf2_4 rfl bf2_35 bf2_7 rfl rfl rfl
theorem bk2_35 {w : am_Wd}  : am_run 2 35 [none, none, none] [] w = some (.inl none, w) := by
  exact am_e2 bf2_35 rfl (am_ge_rf w)
theorem bk2_7 {w : am_Wd} {l0 : Nat} {l1 : Int32} {l2 : Int32} : am_run 2 7 [some (.ref l0), some (.int l1), some (.int l2)] [] w = (am_gf w l0 4 0).bind fun v => am_run 2 11 [some (.ref l0), some (.int l1), some (.int l2)] (v :: []) w := by
  refine (bu (ls'' := [some (.ref l0), some (.int l1), some (.int l2)]) (st' := [.ref l0]) bf2_7 bf2_8 rfl rfl).trans ?_
  exact bh bf2_8 bf2_11 rfl (fun _ _ => am_ge_rf w) rfl
theorem bk2_11 {w : am_Wd} {l0 : Nat} {l1 : Int32} {l2 : Int32} {s0 : Nat} : am_run 2 11 [some (.ref l0), some (.int l1), some (.int l2)] [.ref s0] w = if ¬ l2 = (bj_irem l1 (nI 4)) then am_run 2 27 [some (.ref l0), some (.int l1), some (.int l2)] [.int l2, .ref s0] w else am_run 2 19 [some (.ref l0), some (.int l1), some (.int l2)] [.int l2, .ref s0] w := by
  refine (bu (ls'' := [some (.ref l0), some (.int l1), some (.int l2)]) (st' := [.int l2, .ref s0]) bf2_11 bf2_12 rfl rfl).trans ?_
  refine (bu (ls'' := [some (.ref l0), some (.int l1), some (.int l2)]) (st' := [.int l2, .int l2, .ref s0]) bf2_12 bf2_13 rfl rfl).trans ?_
  refine (bu (ls'' := [some (.ref l0), some (.int l1), some (.int l2)]) (st' := [.int l1, .int l2, .int l2, .ref s0]) bf2_13 bf2_14 rfl rfl).trans ?_
  refine (bu (ls'' := [some (.ref l0), some (.int l1), some (.int l2)]) (st' := [.int (nI 4), .int l1, .int l2, .int l2, .ref s0]) bf2_14 bf2_15 rfl rfl).trans ?_
  refine (bu (ls'' := [some (.ref l0), some (.int l1), some (.int l2)]) (st' := [.int (bj_irem l1 (nI 4)), .int l2, .int l2, .ref s0]) bf2_15 bf2_16 rfl rfl).trans ?_
  exact bic bf2_16 rfl bf2_27 bf2_19 rfl rfl rfl
theorem bk2_27 {w : am_Wd} {l0 : Nat} {l1 : Int32} {l2 : Int32} {s0 : Int32} {s1 : Nat} : am_run 2 27 [some (.ref l0), some (.int l1), some (.int l2)] [.int s0, .ref s1] w = am_run 2 28 [some (.ref l0), some (.int l1), some (.int l2)] [.long (lN 0), .int s0, .ref s1] w := by
  refine (bu (ls'' := [some (.ref l0), some (.int l1), some (.int l2)]) (st' := [.long (lN 0), .int s0, .ref s1]) bf2_27 bf2_28 rfl rfl).trans ?_
  rfl
theorem bk2_19 {w : am_Wd} {l0 : Nat} {l1 : Int32} {l2 : Int32} {s0 : Int32} {s1 : Nat} : am_run 2 19 [some (.ref l0), some (.int l1), some (.int l2)] [.int s0, .ref s1] w = am_run 2 28 [some (.ref l0), some (.int l1), some (.int l2)] [.long (bj_lshl (lN 1) (l1 / (nI 4))), .int s0, .ref s1] w := by
  refine (bu (ls'' := [some (.ref l0), some (.int l1), some (.int l2)]) (st' := [.long (lN 1), .int s0, .ref s1]) bf2_19 bf2_20 rfl rfl).trans ?_
  refine (bu (ls'' := [some (.ref l0), some (.int l1), some (.int l2)]) (st' := [.int l1, .long (lN 1), .int s0, .ref s1]) bf2_20 bf2_21 rfl rfl).trans ?_
  refine (bu (ls'' := [some (.ref l0), some (.int l1), some (.int l2)]) (st' := [.int (nI 4), .int l1, .long (lN 1), .int s0, .ref s1]) bf2_21 bf2_22 rfl rfl).trans ?_
  refine (bu (ls'' := [some (.ref l0), some (.int l1), some (.int l2)]) (st' := [.int (l1 / (nI 4)), .long (lN 1), .int s0, .ref s1]) bf2_22 bf2_23 rfl rfl).trans ?_
  refine (bu (ls'' := [some (.ref l0), some (.int l1), some (.int l2)]) (st' := [.long (bj_lshl (lN 1) (l1 / (nI 4))), .int s0, .ref s1]) bf2_23 bf2_24 rfl rfl).trans ?_
  refine (bu (ls'' := [some (.ref l0), some (.int l1), some (.int l2)]) (st' := [.long (bj_lshl (lN 1) (l1 / (nI 4))), .int s0, .ref s1]) bf2_24 bf2_28 rfl rfl).trans ?_
  rfl
theorem bk2_28 {w : am_Wd} {l0 : Nat} {l1 : Int32} {l2 : Int32} {s0 : Int64} {s1 : Int32} {s2 : Nat} : am_run 2 28 [some (.ref l0), some (.int l1), some (.int l2)] [.long s0, .int s1, .ref s2] w = (am_wl w s2 s1 s0).bind fun w' => am_run 2 29 [some (.ref l0), some (.int l1), some (.int l2)] [] w' := by
  exact bh bf2_28 bf2_29 rfl (bge_wl) rfl
theorem bk2_29 {w : am_Wd} {l0 : Nat} {l1 : Int32} {l2 : Int32} : am_run 2 29 [some (.ref l0), some (.int l1), some (.int l2)] [] w = am_run 2 2 [some (.ref l0), some (.int l1), some (.int (l2 + (nI 1)))] [] w := by
  refine (bu (ls'' := [some (.ref l0), some (.int l1), some (.int (l2 + (nI 1)))]) (st' := []) bf2_29 bf2_32 rfl rfl).trans ?_
  refine (bu (ls'' := [some (.ref l0), some (.int l1), some (.int (l2 + (nI 1)))]) (st' := []) bf2_32 bf2_2 rfl rfl).trans ?_
  rfl
theorem bf3_0 : am_fetch (am_mth 3) 0 = some (.lconst 0, 1, [], [1, 2, 3]) := by decide +kernel
theorem bf3_1 : am_fetch (am_mth 3) 1 = some (.lstore_n 1, 1, [], [1, 2, 3]) := by decide +kernel
theorem bf3_2 : am_fetch (am_mth 3) 2 = some (.iconst 0, 1, [], [2, 3]) := by decide +kernel
theorem bf3_3 : am_fetch (am_mth 3) 3 = some (.istore_n 3, 1, [], [2, 3]) := by decide +kernel
theorem bf3_4 : am_fetch (am_mth 3) 4 = some (.iload_n 3, 1, [], [2]) := by decide +kernel
theorem bf3_5 : am_fetch (am_mth 3) 5 = some (.iconst 4, 1, [], [2]) := by decide +kernel
theorem bf3_6 : am_fetch (am_mth 3) 6 = some (.if_icmp .ge 18, 3, [], [2]) := by decide +kernel
theorem bf3_9 : am_fetch (am_mth 3) 9 = some (.lload_n 1, 1, [], [2]) := by decide +kernel
theorem bf3_10 : am_fetch (am_mth 3) 10 = some (.aload_n 0, 1, [], [1, 2]) := by decide +kernel
theorem bf3_11 : am_fetch (am_mth 3) 11 = some (.getfield 9, 3, [0, 4, 0, 287], [1, 2]) := by decide +kernel
theorem bf3_14 : am_fetch (am_mth 3) 14 = some (.iload_n 3, 1, [], [1, 2]) := by decide +kernel
theorem bf3_15 : am_fetch (am_mth 3) 15 = some (.laload, 1, [], [1, 2]) := by decide +kernel
theorem bf3_16 : am_fetch (am_mth 3) 16 = some (.lor, 1, [], [1, 2]) := by decide +kernel
theorem bf3_17 : am_fetch (am_mth 3) 17 = some (.lstore_n 1, 1, [], [1, 2]) := by decide +kernel
theorem bf3_18 : am_fetch (am_mth 3) 18 = some (.iinc 3 1, 3, [], [2]) := by decide +kernel
theorem bf3_21 : am_fetch (am_mth 3) 21 = some (.goto (-17), 3, [], [2]) := by decide +kernel
theorem bf3_24 : am_fetch (am_mth 3) 24 = some (.lload_n 1, 1, [], [0, 2, 3]) := by decide +kernel
theorem bf3_25 : am_fetch (am_mth 3) 25 = some (.lreturn, 1, [], [0, 1, 2, 3]) := by decide +kernel
theorem bk3_0 {w : am_Wd} {l0 : Nat} : am_run 3 0 [some (.ref l0), none, none, none] [] w = am_run 3 4 [some (.ref l0), some (.long (lN 0)), none, some (.int (nI 0))] [] w := by
  refine (bu (ls'' := [some (.ref l0), none, none, none]) (st' := [.long (lN 0)]) bf3_0 bf3_1 rfl rfl).trans ?_
  refine (bu (ls'' := [some (.ref l0), some (.long (lN 0)), none, none]) (st' := []) bf3_1 bf3_2 rfl rfl).trans ?_
  refine (bu (ls'' := [some (.ref l0), some (.long (lN 0)), none, none]) (st' := [.int (nI 0)]) bf3_2 bf3_3 rfl rfl).trans ?_
  refine (bu (ls'' := [some (.ref l0), some (.long (lN 0)), none, some (.int (nI 0))]) (st' := []) bf3_3 bf3_4 rfl rfl).trans ?_
  rfl
theorem bk3_4 {w : am_Wd} {l0 : Nat} {l1 : Int64} {l3 : Int32} : am_run 3 4 [some (.ref l0), some (.long l1), none, some (.int l3)] [] w = if (nI 4) ≤ l3 then am_run 3 24 [none, some (.long l1), none, none] [] w else am_run 3 9 [some (.ref l0), some (.long l1), none, some (.int l3)] [] w := by
  refine (bu (ls'' := [some (.ref l0), some (.long l1), none, some (.int l3)]) (st' := [.int l3]) bf3_4 bf3_5 rfl rfl).trans ?_
  refine (bu (ls'' := [some (.ref l0), some (.long l1), none, some (.int l3)]) (st' := [.int (nI 4), .int l3]) bf3_5 bf3_6 rfl rfl).trans ?_
  exact bic bf3_6 rfl bf3_24 bf3_9 rfl rfl rfl
theorem bk3_24 {w : am_Wd} {l1 : Int64} : am_run 3 24 [none, some (.long l1), none, none] [] w = some (.inl (some (.long l1)), w) := by
  refine (bu (ls'' := [none, none, none, none]) (st' := [.long l1]) bf3_24 bf3_25 rfl rfl).trans ?_
  exact am_e2 bf3_25 rfl (am_ge_rf w)
theorem bk3_9 {w : am_Wd} {l0 : Nat} {l1 : Int64} {l3 : Int32} : am_run 3 9 [some (.ref l0), some (.long l1), none, some (.int l3)] [] w = (am_gf w l0 4 0).bind fun v => am_run 3 14 [some (.ref l0), none, none, some (.int l3)] (v :: [.long l1]) w := by
  refine (bu (ls'' := [some (.ref l0), none, none, some (.int l3)]) (st' := [.long l1]) bf3_9 bf3_10 rfl rfl).trans ?_
  refine (bu (ls'' := [some (.ref l0), none, none, some (.int l3)]) (st' := [.ref l0, .long l1]) bf3_10 bf3_11 rfl rfl).trans ?_
  exact bh bf3_11 bf3_14 rfl (fun _ _ => am_ge_rf w) rfl
theorem bk3_14 {w : am_Wd} {l0 : Nat} {l3 : Int32} {s0 : Nat} {s1 : Int64} : am_run 3 14 [some (.ref l0), none, none, some (.int l3)] [.ref s0, .long s1] w = (am_rl w s0 l3).bind fun v => am_run 3 16 [some (.ref l0), none, none, some (.int l3)] (.long v :: [.long s1]) w := by
  refine (bu (ls'' := [some (.ref l0), none, none, some (.int l3)]) (st' := [.int l3, .ref s0, .long s1]) bf3_14 bf3_15 rfl rfl).trans ?_
  exact bh bf3_15 bf3_16 rfl (fun _ _ => am_ge_rf w) rfl
theorem bk3_16 {w : am_Wd} {l0 : Nat} {l3 : Int32} {s0 : Int64} {s1 : Int64} : am_run 3 16 [some (.ref l0), none, none, some (.int l3)] [.long s0, .long s1] w = am_run 3 4 [some (.ref l0), some (.long (s1 ||| s0)), none, some (.int (l3 + (nI 1)))] [] w := by
  refine (bu (ls'' := [some (.ref l0), none, none, some (.int l3)]) (st' := [.long (s1 ||| s0)]) bf3_16 bf3_17 rfl rfl).trans ?_
  refine (bu (ls'' := [some (.ref l0), some (.long (s1 ||| s0)), none, some (.int l3)]) (st' := []) bf3_17 bf3_18 rfl rfl).trans ?_
  refine (bu (ls'' := [some (.ref l0), some (.long (s1 ||| s0)), none, some (.int (l3 + (nI 1)))]) (st' := []) bf3_18 bf3_21 rfl rfl).trans ?_
  refine (bu (ls'' := [some (.ref l0), some (.long (s1 ||| s0)), none, some (.int (l3 + (nI 1)))]) (st' := []) bf3_21 bf3_4 rfl rfl).trans ?_
  rfl
theorem bf4_0 : am_fetch (am_mth 4) 0 = some (.aload_n 0, 1, [], [1, 2, 3]) := by decide +kernel
theorem bf4_1 : am_fetch (am_mth 4) 1 = some (.getfield 9, 3, [0, 4, 0, 287], [1, 2, 3]) := by decide +kernel
theorem bf4_4 : am_fetch (am_mth 4) 4 = some (.iconst 3, 1, [], [1, 2, 3]) := by decide +kernel
theorem bf4_5 : am_fetch (am_mth 4) 5 = some (.laload, 1, [], [1, 2, 3]) := by decide +kernel
theorem bf4_6 : am_fetch (am_mth 4) 6 = some (.lstore_n 1, 1, [], [1, 2, 3]) := by decide +kernel
theorem bf4_7 : am_fetch (am_mth 4) 7 = some (.iconst 3, 1, [], [2, 3]) := by decide +kernel
theorem bf4_8 : am_fetch (am_mth 4) 8 = some (.istore_n 3, 1, [], [2, 3]) := by decide +kernel
theorem bf4_9 : am_fetch (am_mth 4) 9 = some (.iload_n 3, 1, [], [2]) := by decide +kernel
theorem bf4_10 : am_fetch (am_mth 4) 10 = some (.ifCond .le 23, 3, [], [2]) := by decide +kernel
theorem bf4_13 : am_fetch (am_mth 4) 13 = some (.aload_n 0, 1, [], [2]) := by decide +kernel
theorem bf4_14 : am_fetch (am_mth 4) 14 = some (.getfield 9, 3, [0, 4, 0, 287], [2]) := by decide +kernel
theorem bf4_17 : am_fetch (am_mth 4) 17 = some (.iload_n 3, 1, [], [2]) := by decide +kernel
theorem bf4_18 : am_fetch (am_mth 4) 18 = some (.aload_n 0, 1, [], [2]) := by decide +kernel
theorem bf4_19 : am_fetch (am_mth 4) 19 = some (.getfield 9, 3, [0, 4, 0, 287], [2]) := by decide +kernel
theorem bf4_22 : am_fetch (am_mth 4) 22 = some (.iload_n 3, 1, [], [2]) := by decide +kernel
theorem bf4_23 : am_fetch (am_mth 4) 23 = some (.iconst 1, 1, [], [2]) := by decide +kernel
theorem bf4_24 : am_fetch (am_mth 4) 24 = some (.isub, 1, [], [2]) := by decide +kernel
theorem bf4_25 : am_fetch (am_mth 4) 25 = some (.laload, 1, [], [2]) := by decide +kernel
theorem bf4_26 : am_fetch (am_mth 4) 26 = some (.lastore, 1, [], [2]) := by decide +kernel
theorem bf4_27 : am_fetch (am_mth 4) 27 = some (.iinc 3 (-1), 3, [], [2]) := by decide +kernel
theorem bf4_30 : am_fetch (am_mth 4) 30 = some (.goto (-21), 3, [], [2]) := by decide +kernel
theorem bf4_33 : am_fetch (am_mth 4) 33 = some (.aload_n 0, 1, [], [2, 3]) := by decide +kernel
theorem bf4_34 : am_fetch (am_mth 4) 34 = some (.getfield 9, 3, [0, 4, 0, 287], [0, 2, 3]) := by decide +kernel
theorem bf4_37 : am_fetch (am_mth 4) 37 = some (.iconst 0, 1, [], [0, 2, 3]) := by decide +kernel
theorem bf4_38 : am_fetch (am_mth 4) 38 = some (.lload_n 1, 1, [], [0, 2, 3]) := by decide +kernel
theorem bf4_39 : am_fetch (am_mth 4) 39 = some (.lastore, 1, [], [0, 1, 2, 3]) := by decide +kernel
theorem bf4_40 : am_fetch (am_mth 4) 40 = some (.return_, 1, [], [0, 1, 2, 3]) := by decide +kernel
theorem bk4_0 {w : am_Wd} {l0 : Nat} : am_run 4 0 [some (.ref l0), none, none, none] [] w = (am_gf w l0 4 0).bind fun v => am_run 4 4 [some (.ref l0), none, none, none] (v :: []) w := by
  refine (bu (ls'' := [some (.ref l0), none, none, none]) (st' := [.ref l0]) bf4_0 bf4_1 rfl rfl).trans ?_
  exact bh bf4_1 bf4_4 rfl (fun _ _ => am_ge_rf w) rfl
theorem bk4_4 {w : am_Wd} {l0 : Nat} {s0 : Nat} : am_run 4 4 [some (.ref l0), none, none, none] [.ref s0] w = (am_rl w s0 (nI 3)).bind fun v => am_run 4 6 [some (.ref l0), none, none, none] (.long v :: []) w := by
  refine (bu (ls'' := [some (.ref l0), none, none, none]) (st' := [.int (nI 3), .ref s0]) bf4_4 bf4_5 rfl rfl).trans ?_
  exact bh bf4_5 bf4_6 rfl (fun _ _ => am_ge_rf w) rfl
theorem bk4_6 {w : am_Wd} {l0 : Nat} {s0 : Int64} : am_run 4 6 [some (.ref l0), none, none, none] [.long s0] w = am_run 4 9 [some (.ref l0), some (.long s0), none, some (.int (nI 3))] [] w := by
  refine (bu (ls'' := [some (.ref l0), some (.long s0), none, none]) (st' := []) bf4_6 bf4_7 rfl rfl).trans ?_
  refine (bu (ls'' := [some (.ref l0), some (.long s0), none, none]) (st' := [.int (nI 3)]) bf4_7 bf4_8 rfl rfl).trans ?_
  refine (bu (ls'' := [some (.ref l0), some (.long s0), none, some (.int (nI 3))]) (st' := []) bf4_8 bf4_9 rfl rfl).trans ?_
  rfl
theorem bk4_9 {w : am_Wd} {l0 : Nat} {l1 : Int64} {l3 : Int32} : am_run 4 9 [some (.ref l0), some (.long l1), none, some (.int l3)] [] w = if l3 ≤ nI 0 then am_run 4 33 [some (.ref l0), some (.long l1), none, none] [] w else am_run 4 13 [some (.ref l0), some (.long l1), none, some (.int l3)] [] w := by
  refine (bu (ls'' := [some (.ref l0), some (.long l1), none, some (.int l3)]) (st' := [.int l3]) bf4_9 bf4_10 rfl rfl).trans ?_
  exact bifc bf4_10 rfl bf4_33 bf4_13 rfl rfl rfl
theorem bk4_33 {w : am_Wd} {l0 : Nat} {l1 : Int64} : am_run 4 33 [some (.ref l0), some (.long l1), none, none] [] w = (am_gf w l0 4 0).bind fun v => am_run 4 37 [none, some (.long l1), none, none] (v :: []) w := by
  refine (bu (ls'' := [none, some (.long l1), none, none]) (st' := [.ref l0]) bf4_33 bf4_34 rfl rfl).trans ?_
  exact bh bf4_34 bf4_37 rfl (fun _ _ => am_ge_rf w) rfl
theorem bk4_13 {w : am_Wd} {l0 : Nat} {l1 : Int64} {l3 : Int32} : am_run 4 13 [some (.ref l0), some (.long l1), none, some (.int l3)] [] w = (am_gf w l0 4 0).bind fun v => am_run 4 17 [some (.ref l0), some (.long l1), none, some (.int l3)] (v :: []) w := by
  refine (bu (ls'' := [some (.ref l0), some (.long l1), none, some (.int l3)]) (st' := [.ref l0]) bf4_13 bf4_14 rfl rfl).trans ?_
  exact bh bf4_14 bf4_17 rfl (fun _ _ => am_ge_rf w) rfl
theorem bk4_37 {w : am_Wd} {l1 : Int64} {s0 : Nat} : am_run 4 37 [none, some (.long l1), none, none] [.ref s0] w = (am_wl w s0 (nI 0) l1).bind fun w' => am_run 4 40 [none, none, none, none] [] w' := by
  refine (bu (ls'' := [none, some (.long l1), none, none]) (st' := [.int (nI 0), .ref s0]) bf4_37 bf4_38 rfl rfl).trans ?_
  refine (bu (ls'' := [none, none, none, none]) (st' := [.long l1, .int (nI 0), .ref s0]) bf4_38 bf4_39 rfl rfl).trans ?_
  exact bh bf4_39 bf4_40 rfl (bge_wl) rfl
theorem bk4_17 {w : am_Wd} {l0 : Nat} {l1 : Int64} {l3 : Int32} {s0 : Nat} : am_run 4 17 [some (.ref l0), some (.long l1), none, some (.int l3)] [.ref s0] w = (am_gf w l0 4 0).bind fun v => am_run 4 22 [some (.ref l0), some (.long l1), none, some (.int l3)] (v :: [.int l3, .ref s0]) w := by
  refine (bu (ls'' := [some (.ref l0), some (.long l1), none, some (.int l3)]) (st' := [.int l3, .ref s0]) bf4_17 bf4_18 rfl rfl).trans ?_
  refine (bu (ls'' := [some (.ref l0), some (.long l1), none, some (.int l3)]) (st' := [.ref l0, .int l3, .ref s0]) bf4_18 bf4_19 rfl rfl).trans ?_
  exact bh bf4_19 bf4_22 rfl (fun _ _ => am_ge_rf w) rfl
theorem bk4_40 {w : am_Wd}  : am_run 4 40 [none, none, none, none] [] w = some (.inl none, w) := by
  exact am_e2 bf4_40 rfl (am_ge_rf w)
theorem bk4_22 {w : am_Wd} {l0 : Nat} {l1 : Int64} {l3 : Int32} {s0 : Nat} {s1 : Int32} {s2 : Nat} : am_run 4 22 [some (.ref l0), some (.long l1), none, some (.int l3)] [.ref s0, .int s1, .ref s2] w = (am_rl w s0 (l3 - (nI 1))).bind fun v => am_run 4 26 [some (.ref l0), some (.long l1), none, some (.int l3)] (.long v :: [.int s1, .ref s2]) w := by
  refine (bu (ls'' := [some (.ref l0), some (.long l1), none, some (.int l3)]) (st' := [.int l3, .ref s0, .int s1, .ref s2]) bf4_22 bf4_23 rfl rfl).trans ?_
  refine (bu (ls'' := [some (.ref l0), some (.long l1), none, some (.int l3)]) (st' := [.int (nI 1), .int l3, .ref s0, .int s1, .ref s2]) bf4_23 bf4_24 rfl rfl).trans ?_
  refine (bu (ls'' := [some (.ref l0), some (.long l1), none, some (.int l3)]) (st' := [.int (l3 - (nI 1)), .ref s0, .int s1, .ref s2]) bf4_24 bf4_25 rfl rfl).trans ?_
  exact bh bf4_25 bf4_26 rfl (fun _ _ => am_ge_rf w) rfl
theorem bk4_26 {w : am_Wd} {l0 : Nat} {l1 : Int64} {l3 : Int32} {s0 : Int64} {s1 : Int32} {s2 : Nat} : am_run 4 26 [some (.ref l0), some (.long l1), none, some (.int l3)] [.long s0, .int s1, .ref s2] w = (am_wl w s2 s1 s0).bind fun w' => am_run 4 27 [some (.ref l0), some (.long l1), none, some (.int l3)] [] w' := by
  exact bh bf4_26 bf4_27 rfl (bge_wl) rfl
theorem bk4_27 {w : am_Wd} {l0 : Nat} {l1 : Int64} {l3 : Int32} : am_run 4 27 [some (.ref l0), some (.long l1), none, some (.int l3)] [] w = am_run 4 9 [some (.ref l0), some (.long l1), none, some (.int (l3 + (-1 : Int32)))] [] w := by
  refine (bu (ls'' := [some (.ref l0), some (.long l1), none, some (.int (l3 + (-1 : Int32)))]) (st' := []) bf4_27 bf4_30 rfl rfl).trans ?_
  refine (bu (ls'' := [some (.ref l0), some (.long l1), none, some (.int (l3 + (-1 : Int32)))]) (st' := []) bf4_30 bf4_9 rfl rfl).trans ?_
  rfl
theorem bf5_0 : am_fetch (am_mth 5) 0 = some (.aload_n 0, 1, [], [1, 2, 3]) := by decide +kernel
theorem bf5_1 : am_fetch (am_mth 5) 1 = some (.getfield 9, 3, [0, 4, 0, 287], [1, 2, 3]) := by decide +kernel
theorem bf5_4 : am_fetch (am_mth 5) 4 = some (.iconst 0, 1, [], [1, 2, 3]) := by decide +kernel
theorem bf5_5 : am_fetch (am_mth 5) 5 = some (.laload, 1, [], [1, 2, 3]) := by decide +kernel
theorem bf5_6 : am_fetch (am_mth 5) 6 = some (.lstore_n 1, 1, [], [1, 2, 3]) := by decide +kernel
theorem bf5_7 : am_fetch (am_mth 5) 7 = some (.iconst 0, 1, [], [2, 3]) := by decide +kernel
theorem bf5_8 : am_fetch (am_mth 5) 8 = some (.istore_n 3, 1, [], [2, 3]) := by decide +kernel
theorem bf5_9 : am_fetch (am_mth 5) 9 = some (.iload_n 3, 1, [], [2]) := by decide +kernel
theorem bf5_10 : am_fetch (am_mth 5) 10 = some (.iconst 3, 1, [], [2]) := by decide +kernel
theorem bf5_11 : am_fetch (am_mth 5) 11 = some (.if_icmp .ge 23, 3, [], [2]) := by decide +kernel
theorem bf5_14 : am_fetch (am_mth 5) 14 = some (.aload_n 0, 1, [], [2]) := by decide +kernel
theorem bf5_15 : am_fetch (am_mth 5) 15 = some (.getfield 9, 3, [0, 4, 0, 287], [2]) := by decide +kernel
theorem bf5_18 : am_fetch (am_mth 5) 18 = some (.iload_n 3, 1, [], [2]) := by decide +kernel
theorem bf5_19 : am_fetch (am_mth 5) 19 = some (.aload_n 0, 1, [], [2]) := by decide +kernel
theorem bf5_20 : am_fetch (am_mth 5) 20 = some (.getfield 9, 3, [0, 4, 0, 287], [2]) := by decide +kernel
theorem bf5_23 : am_fetch (am_mth 5) 23 = some (.iload_n 3, 1, [], [2]) := by decide +kernel
theorem bf5_24 : am_fetch (am_mth 5) 24 = some (.iconst 1, 1, [], [2]) := by decide +kernel
theorem bf5_25 : am_fetch (am_mth 5) 25 = some (.iadd, 1, [], [2]) := by decide +kernel
theorem bf5_26 : am_fetch (am_mth 5) 26 = some (.laload, 1, [], [2]) := by decide +kernel
theorem bf5_27 : am_fetch (am_mth 5) 27 = some (.lastore, 1, [], [2]) := by decide +kernel
theorem bf5_28 : am_fetch (am_mth 5) 28 = some (.iinc 3 1, 3, [], [2]) := by decide +kernel
theorem bf5_31 : am_fetch (am_mth 5) 31 = some (.goto (-22), 3, [], [2]) := by decide +kernel
theorem bf5_34 : am_fetch (am_mth 5) 34 = some (.aload_n 0, 1, [], [2, 3]) := by decide +kernel
theorem bf5_35 : am_fetch (am_mth 5) 35 = some (.getfield 9, 3, [0, 4, 0, 287], [0, 2, 3]) := by decide +kernel
theorem bf5_38 : am_fetch (am_mth 5) 38 = some (.iconst 3, 1, [], [0, 2, 3]) := by decide +kernel
theorem bf5_39 : am_fetch (am_mth 5) 39 = some (.lload_n 1, 1, [], [0, 2, 3]) := by decide +kernel
theorem bf5_40 : am_fetch (am_mth 5) 40 = some (.lastore, 1, [], [0, 1, 2, 3]) := by decide +kernel
theorem bf5_41 : am_fetch (am_mth 5) 41 = some (.return_, 1, [], [0, 1, 2, 3]) := by decide +kernel
theorem bk5_0 {w : am_Wd} {l0 : Nat} : am_run 5 0 [some (.ref l0), none, none, none] [] w = (am_gf w l0 4 0).bind fun v => am_run 5 4 [some (.ref l0), none, none, none] (v :: []) w := by
  refine (bu (ls'' := [some (.ref l0), none, none, none]) (st' := [.ref l0]) bf5_0 bf5_1 rfl rfl).trans ?_
  exact bh bf5_1 bf5_4 rfl (fun _ _ => am_ge_rf w) rfl
theorem bk5_4 {w : am_Wd} {l0 : Nat} {s0 : Nat} : am_run 5 4 [some (.ref l0), none, none, none] [.ref s0] w = (am_rl w s0 (nI 0)).bind fun v => am_run 5 6 [some (.ref l0), none, none, none] (.long v :: []) w := by
  refine (bu (ls'' := [some (.ref l0), none, none, none]) (st' := [.int (nI 0), .ref s0]) bf5_4 bf5_5 rfl rfl).trans ?_
  exact bh bf5_5 bf5_6 rfl (fun _ _ => am_ge_rf w) rfl
theorem bk5_6 {w : am_Wd} {l0 : Nat} {s0 : Int64} : am_run 5 6 [some (.ref l0), none, none, none] [.long s0] w = am_run 5 9 [some (.ref l0), some (.long s0), none, some (.int (nI 0))] [] w := by
  refine (bu (ls'' := [some (.ref l0), some (.long s0), none, none]) (st' := []) bf5_6 bf5_7 rfl rfl).trans ?_
  refine (bu (ls'' := [some (.ref l0), some (.long s0), none, none]) (st' := [.int (nI 0)]) bf5_7 bf5_8 rfl rfl).trans ?_
  refine (bu (ls'' := [some (.ref l0), some (.long s0), none, some (.int (nI 0))]) (st' := []) bf5_8 bf5_9 rfl rfl).trans ?_
  rfl
theorem bk5_9 {w : am_Wd} {l0 : Nat} {l1 : Int64} {l3 : Int32} : am_run 5 9 [some (.ref l0), some (.long l1), none, some (.int l3)] [] w = if (nI 3) ≤ l3 then am_run 5 34 [some (.ref l0), some (.long l1), none, none] [] w else am_run 5 14 [some (.ref l0), some (.long l1), none, some (.int l3)] [] w := by
  refine (bu (ls'' := [some (.ref l0), some (.long l1), none, some (.int l3)]) (st' := [.int l3]) bf5_9 bf5_10 rfl rfl).trans ?_
  refine (bu (ls'' := [some (.ref l0), some (.long l1), none, some (.int l3)]) (st' := [.int (nI 3), .int l3]) bf5_10 bf5_11 rfl rfl).trans ?_
  exact bic bf5_11 rfl bf5_34 bf5_14 rfl rfl rfl
theorem bk5_34 {w : am_Wd} {l0 : Nat} {l1 : Int64} : am_run 5 34 [some (.ref l0), some (.long l1), none, none] [] w = (am_gf w l0 4 0).bind fun v => am_run 5 38 [none, some (.long l1), none, none] (v :: []) w := by
  refine (bu (ls'' := [none, some (.long l1), none, none]) (st' := [.ref l0]) bf5_34 bf5_35 rfl rfl).trans ?_
  exact bh bf5_35 bf5_38 rfl (fun _ _ => am_ge_rf w) rfl
theorem bk5_14 {w : am_Wd} {l0 : Nat} {l1 : Int64} {l3 : Int32} : am_run 5 14 [some (.ref l0), some (.long l1), none, some (.int l3)] [] w = (am_gf w l0 4 0).bind fun v => am_run 5 18 [some (.ref l0), some (.long l1), none, some (.int l3)] (v :: []) w := by
  refine (bu (ls'' := [some (.ref l0), some (.long l1), none, some (.int l3)]) (st' := [.ref l0]) bf5_14 bf5_15 rfl rfl).trans ?_
  exact bh bf5_15 bf5_18 rfl (fun _ _ => am_ge_rf w) rfl
theorem bk5_38 {w : am_Wd} {l1 : Int64} {s0 : Nat} : am_run 5 38 [none, some (.long l1), none, none] [.ref s0] w = (am_wl w s0 (nI 3) l1).bind fun w' => am_run 5 41 [none, none, none, none] [] w' := by
  refine (bu (ls'' := [none, some (.long l1), none, none]) (st' := [.int (nI 3), .ref s0]) bf5_38 bf5_39 rfl rfl).trans ?_
  refine (bu (ls'' := [none, none, none, none]) (st' := [.long l1, .int (nI 3), .ref s0]) bf5_39 bf5_40 rfl rfl).trans ?_
  exact bh bf5_40 bf5_41 rfl (bge_wl) rfl
theorem bk5_18 {w : am_Wd} {l0 : Nat} {l1 : Int64} {l3 : Int32} {s0 : Nat} : am_run 5 18 [some (.ref l0), some (.long l1), none, some (.int l3)] [.ref s0] w = (am_gf w l0 4 0).bind fun v => am_run 5 23 [some (.ref l0), some (.long l1), none, some (.int l3)] (v :: [.int l3, .ref s0]) w := by
  refine (bu (ls'' := [some (.ref l0), some (.long l1), none, some (.int l3)]) (st' := [.int l3, .ref s0]) bf5_18 bf5_19 rfl rfl).trans ?_
  refine (bu (ls'' := [some (.ref l0), some (.long l1), none, some (.int l3)]) (st' := [.ref l0, .int l3, .ref s0]) bf5_19 bf5_20 rfl rfl).trans ?_
  exact bh bf5_20 bf5_23 rfl (fun _ _ => am_ge_rf w) rfl
theorem bk5_41 {w : am_Wd}  : am_run 5 41 [none, none, none, none] [] w = some (.inl none, w) := by
  exact am_e2 bf5_41 rfl (am_ge_rf w)
theorem bk5_23 {w : am_Wd} {l0 : Nat} {l1 : Int64} {l3 : Int32} {s0 : Nat} {s1 : Int32} {s2 : Nat} : am_run 5 23 [some (.ref l0), some (.long l1), none, some (.int l3)] [.ref s0, .int s1, .ref s2] w = (am_rl w s0 (l3 + (nI 1))).bind fun v => am_run 5 27 [some (.ref l0), some (.long l1), none, some (.int l3)] (.long v :: [.int s1, .ref s2]) w := by
  refine (bu (ls'' := [some (.ref l0), some (.long l1), none, some (.int l3)]) (st' := [.int l3, .ref s0, .int s1, .ref s2]) bf5_23 bf5_24 rfl rfl).trans ?_
  refine (bu (ls'' := [some (.ref l0), some (.long l1), none, some (.int l3)]) (st' := [.int (nI 1), .int l3, .ref s0, .int s1, .ref s2]) bf5_24 bf5_25 rfl rfl).trans ?_
  refine (bu (ls'' := [some (.ref l0), some (.long l1), none, some (.int l3)]) (st' := [.int (l3 + (nI 1)), .ref s0, .int s1, .ref s2]) bf5_25 bf5_26 rfl rfl).trans ?_
  exact bh bf5_26 bf5_27 rfl (fun _ _ => am_ge_rf w) rfl
theorem bk5_27 {w : am_Wd} {l0 : Nat} {l1 : Int64} {l3 : Int32} {s0 : Int64} {s1 : Int32} {s2 : Nat} : am_run 5 27 [some (.ref l0), some (.long l1), none, some (.int l3)] [.long s0, .int s1, .ref s2] w = (am_wl w s2 s1 s0).bind fun w' => am_run 5 28 [some (.ref l0), some (.long l1), none, some (.int l3)] [] w' := by
  exact bh bf5_27 bf5_28 rfl (bge_wl) rfl
theorem bk5_28 {w : am_Wd} {l0 : Nat} {l1 : Int64} {l3 : Int32} : am_run 5 28 [some (.ref l0), some (.long l1), none, some (.int l3)] [] w = am_run 5 9 [some (.ref l0), some (.long l1), none, some (.int (l3 + (nI 1)))] [] w := by
  refine (bu (ls'' := [some (.ref l0), some (.long l1), none, some (.int (l3 + (nI 1)))]) (st' := []) bf5_28 bf5_31 rfl rfl).trans ?_
  refine (bu (ls'' := [some (.ref l0), some (.long l1), none, some (.int (l3 + (nI 1)))]) (st' := []) bf5_31 bf5_9 rfl rfl).trans ?_
  rfl
theorem bf6_0 : am_fetch (am_mth 6) 0 = some (.aload_n 0, 1, [], []) := by decide +kernel
theorem bf6_1 : am_fetch (am_mth 6) 1 = some (.invokespecial 3, 3, [1, 44, 37, 38], []) := by decide +kernel
theorem bf6_4 : am_fetch (am_mth 6) 4 = some (.aload_n 0, 1, [], []) := by decide +kernel
theorem bf6_5 : am_fetch (am_mth 6) 5 = some (.bipush 72, 2, [], []) := by decide +kernel
theorem bf6_7 : am_fetch (am_mth 6) 7 = some (.newarray .int, 2, [0, 60], []) := by decide +kernel
theorem bf6_9 : am_fetch (am_mth 6) 9 = some (.putfield 11, 3, [0, 5, 0, 45], []) := by decide +kernel
theorem bf6_12 : am_fetch (am_mth 6) 12 = some (.aload_n 0, 1, [], []) := by decide +kernel
theorem bf6_13 : am_fetch (am_mth 6) 13 = some (.bipush 72, 2, [], [0]) := by decide +kernel
theorem bf6_15 : am_fetch (am_mth 6) 15 = some (.newarray .int, 2, [0, 60], [0]) := by decide +kernel
theorem bf6_17 : am_fetch (am_mth 6) 17 = some (.putfield 15, 3, [0, 5, 1, 46], [0]) := by decide +kernel
theorem bf6_20 : am_fetch (am_mth 6) 20 = some (.return_, 1, [], [0]) := by decide +kernel
theorem bk6_0 {w : am_Wd} {l0 : Nat} : am_run 6 0 [some (.ref l0)] [] w = (am_na w 0 (nI 72)).bind fun w' => am_run 6 9 [some (.ref l0)] (.ref w.2.1 :: [.ref l0]) w' := by
  refine (bu (ls'' := [some (.ref l0)]) (st' := [.ref l0]) bf6_0 bf6_1 rfl rfl).trans ?_
  refine (bu (ls'' := [some (.ref l0)]) (st' := []) bf6_1 bf6_4 rfl rfl).trans ?_
  refine (bu (ls'' := [some (.ref l0)]) (st' := [.ref l0]) bf6_4 bf6_5 rfl rfl).trans ?_
  refine (bu (ls'' := [some (.ref l0)]) (st' := [.int (nI 72), .ref l0]) bf6_5 bf6_7 rfl rfl).trans ?_
  exact bh bf6_7 bf6_9 rfl (bge_na) rfl
theorem bk6_9 {w : am_Wd} {l0 : Nat} {s0 : Nat} {s1 : Nat} : am_run 6 9 [some (.ref l0)] [.ref s0, .ref s1] w = (am_pf w s1 5 0 (.ref s0)).bind fun w' => am_run 6 12 [some (.ref l0)] [] w' := by
  exact bh bf6_9 bf6_12 rfl (bge_pf) rfl
theorem bk6_12 {w : am_Wd} {l0 : Nat} : am_run 6 12 [some (.ref l0)] [] w = (am_na w 0 (nI 72)).bind fun w' => am_run 6 17 [none] (.ref w.2.1 :: [.ref l0]) w' := by
  refine (bu (ls'' := [none]) (st' := [.ref l0]) bf6_12 bf6_13 rfl rfl).trans ?_
  refine (bu (ls'' := [none]) (st' := [.int (nI 72), .ref l0]) bf6_13 bf6_15 rfl rfl).trans ?_
  exact bh bf6_15 bf6_17 rfl (bge_na) rfl
theorem bk6_17 {w : am_Wd} {s0 : Nat} {s1 : Nat} : am_run 6 17 [none] [.ref s0, .ref s1] w = (am_pf w s1 5 1 (.ref s0)).bind fun w' => am_run 6 20 [none] [] w' := by
  exact bh bf6_17 bf6_20 rfl (bge_pf) rfl
theorem bk6_20 {w : am_Wd}  : am_run 6 20 [none] [] w = some (.inl none, w) := by
  exact am_e2 bf6_20 rfl (am_ge_rf w)
theorem bf7_0 : am_fetch (am_mth 7) 0 = some (.iload_n 0, 1, [], []) := by decide +kernel
theorem bf7_1 : am_fetch (am_mth 7) 1 = some (.ifCond .lt 13, 3, [], []) := by decide +kernel
theorem bf7_4 : am_fetch (am_mth 7) 4 = some (.iload_n 0, 1, [], []) := by decide +kernel
theorem bf7_5 : am_fetch (am_mth 7) 5 = some (.bipush 72, 2, [], [0]) := by decide +kernel
theorem bf7_7 : am_fetch (am_mth 7) 7 = some (.if_icmp .ge 7, 3, [], [0]) := by decide +kernel
theorem bf7_10 : am_fetch (am_mth 7) 10 = some (.iconst 1, 1, [], [0]) := by decide +kernel
theorem bf7_11 : am_fetch (am_mth 7) 11 = some (.goto 4, 3, [], [0]) := by decide +kernel
theorem bf7_14 : am_fetch (am_mth 7) 14 = some (.iconst 0, 1, [], [0]) := by decide +kernel
theorem bf7_15 : am_fetch (am_mth 7) 15 = some (.ireturn, 1, [1], [0]) := by decide +kernel
theorem bk7_0 {w : am_Wd} {l0 : Int32} : am_run 7 0 [some (.int l0)] [] w = if l0 < nI 0 then am_run 7 14 [none] [] w else am_run 7 4 [some (.int l0)] [] w := by
  refine (bu (ls'' := [some (.int l0)]) (st' := [.int l0]) bf7_0 bf7_1 rfl rfl).trans ?_
  exact bifc bf7_1 rfl bf7_14 bf7_4 rfl rfl rfl
theorem bk7_14 {w : am_Wd}  : am_run 7 14 [none] [] w = am_run 7 15 [none] [.int (nI 0)] w := by
  refine (bu (ls'' := [none]) (st' := [.int (nI 0)]) bf7_14 bf7_15 rfl rfl).trans ?_
  rfl
theorem bk7_4 {w : am_Wd} {l0 : Int32} : am_run 7 4 [some (.int l0)] [] w = if (nI 72) ≤ l0 then am_run 7 14 [none] [] w else am_run 7 10 [none] [] w := by
  refine (bu (ls'' := [none]) (st' := [.int l0]) bf7_4 bf7_5 rfl rfl).trans ?_
  refine (bu (ls'' := [none]) (st' := [.int (nI 72), .int l0]) bf7_5 bf7_7 rfl rfl).trans ?_
  exact bic bf7_7 rfl bf7_14 bf7_10 rfl rfl rfl
theorem bk7_15 {w : am_Wd} {s0 : Int32} (hb : am_ok (am_rt 1) (.int s0) = true) : am_run 7 15 [none] [.int s0] w = some (.inl (some (.int s0)), w) := by
  exact am_e2 bf7_15 (by unfold am_stp; exact if_pos ⟨by decide, hb⟩) (am_ge_rf w)
theorem bk7_10 {w : am_Wd}  : am_run 7 10 [none] [] w = am_run 7 15 [none] [.int (nI 1)] w := by
  refine (bu (ls'' := [none]) (st' := [.int (nI 1)]) bf7_10 bf7_11 rfl rfl).trans ?_
  refine (bu (ls'' := [none]) (st' := [.int (nI 1)]) bf7_11 bf7_15 rfl rfl).trans ?_
  rfl
theorem bf8_0 : am_fetch (am_mth 8) 0 = some (.lconst 1, 1, [], [4, 5]) := by decide +kernel
theorem bf8_1 : am_fetch (am_mth 8) 1 = some (.iload_n 1, 1, [], [4, 5]) := by decide +kernel
theorem bf8_2 : am_fetch (am_mth 8) 2 = some (.lshl, 1, [], [1, 4, 5]) := by decide +kernel
theorem bf8_3 : am_fetch (am_mth 8) 3 = some (.lstore 4, 2, [], [1, 4, 5]) := by decide +kernel
theorem bf8_5 : am_fetch (am_mth 8) 5 = some (.aload_n 0, 1, [], [1, 5]) := by decide +kernel
theorem bf8_6 : am_fetch (am_mth 8) 6 = some (.iload_n 2, 1, [], [1, 5]) := by decide +kernel
theorem bf8_7 : am_fetch (am_mth 8) 7 = some (.ifCond .eq 13, 3, [], [1, 2, 5]) := by decide +kernel
theorem bf8_10 : am_fetch (am_mth 8) 10 = some (.aload_n 0, 1, [], [1, 2, 5]) := by decide +kernel
theorem bf8_11 : am_fetch (am_mth 8) 11 = some (.getfield 44, 3, [0, 5, 2, 47], [1, 2, 5]) := by decide +kernel
theorem bf8_14 : am_fetch (am_mth 8) 14 = some (.lload 4, 2, [], [1, 2, 5]) := by decide +kernel
theorem bf8_16 : am_fetch (am_mth 8) 16 = some (.lor, 1, [], [1, 2, 5]) := by decide +kernel
theorem bf8_17 : am_fetch (am_mth 8) 17 = some (.goto 14, 3, [], [1, 2, 5]) := by decide +kernel
theorem bf8_20 : am_fetch (am_mth 8) 20 = some (.aload_n 0, 1, [], [1, 2, 5]) := by decide +kernel
theorem bf8_21 : am_fetch (am_mth 8) 21 = some (.getfield 44, 3, [0, 5, 2, 47], [1, 2, 5]) := by decide +kernel
theorem bf8_24 : am_fetch (am_mth 8) 24 = some (.lload 4, 2, [], [1, 2, 5]) := by decide +kernel
theorem bf8_26 : am_fetch (am_mth 8) 26 = some (.ldc2_w 48, 3, [0, 18446744073709551615, 223], [1, 2, 5]) := by decide +kernel
theorem bf8_29 : am_fetch (am_mth 8) 29 = some (.lxor, 1, [], [1, 2, 5]) := by decide +kernel
theorem bf8_30 : am_fetch (am_mth 8) 30 = some (.land, 1, [], [1, 2, 5]) := by decide +kernel
theorem bf8_31 : am_fetch (am_mth 8) 31 = some (.putfield 44, 3, [0, 5, 2, 47], [1, 2, 5]) := by decide +kernel
theorem bf8_34 : am_fetch (am_mth 8) 34 = some (.aload_n 0, 1, [], [1, 2, 5]) := by decide +kernel
theorem bf8_35 : am_fetch (am_mth 8) 35 = some (.iload_n 3, 1, [], [1, 2, 5]) := by decide +kernel
theorem bf8_36 : am_fetch (am_mth 8) 36 = some (.ifCond .eq 13, 3, [], [1, 2, 3, 5]) := by decide +kernel
theorem bf8_39 : am_fetch (am_mth 8) 39 = some (.aload_n 0, 1, [], [1, 2, 3, 5]) := by decide +kernel
theorem bf8_40 : am_fetch (am_mth 8) 40 = some (.getfield 50, 3, [0, 5, 3, 50], [0, 1, 2, 3, 5]) := by decide +kernel
theorem bf8_43 : am_fetch (am_mth 8) 43 = some (.lload 4, 2, [], [0, 1, 2, 3, 5]) := by decide +kernel
theorem bf8_45 : am_fetch (am_mth 8) 45 = some (.lor, 1, [], [0, 1, 2, 3, 4, 5]) := by decide +kernel
theorem bf8_46 : am_fetch (am_mth 8) 46 = some (.goto 14, 3, [], [0, 1, 2, 3, 4, 5]) := by decide +kernel
theorem bf8_49 : am_fetch (am_mth 8) 49 = some (.aload_n 0, 1, [], [1, 2, 3, 5]) := by decide +kernel
theorem bf8_50 : am_fetch (am_mth 8) 50 = some (.getfield 50, 3, [0, 5, 3, 50], [0, 1, 2, 3, 5]) := by decide +kernel
theorem bf8_53 : am_fetch (am_mth 8) 53 = some (.lload 4, 2, [], [0, 1, 2, 3, 5]) := by decide +kernel
theorem bf8_55 : am_fetch (am_mth 8) 55 = some (.ldc2_w 48, 3, [0, 18446744073709551615, 223], [0, 1, 2, 3, 4, 5]) := by decide +kernel
theorem bf8_58 : am_fetch (am_mth 8) 58 = some (.lxor, 1, [], [0, 1, 2, 3, 4, 5]) := by decide +kernel
theorem bf8_59 : am_fetch (am_mth 8) 59 = some (.land, 1, [], [0, 1, 2, 3, 4, 5]) := by decide +kernel
theorem bf8_60 : am_fetch (am_mth 8) 60 = some (.putfield 50, 3, [0, 5, 3, 50], [0, 1, 2, 3, 4, 5]) := by decide +kernel
theorem bf8_63 : am_fetch (am_mth 8) 63 = some (.return_, 1, [], [0, 1, 2, 3, 4, 5]) := by decide +kernel
theorem bk8_0 {w : am_Wd} {l0 : Nat} {l1 : Int32} {l2 : Int32} {l3 : Int32} : am_run 8 0 [some (.ref l0), some (.int l1), some (.int l2), some (.int l3), none, none] [] w = if l2 = nI 0 then am_run 8 20 [some (.ref l0), none, none, some (.int l3), some (.long (bj_lshl (lN 1) l1)), none] [.ref l0] w else am_run 8 10 [some (.ref l0), none, none, some (.int l3), some (.long (bj_lshl (lN 1) l1)), none] [.ref l0] w := by
  refine (bu (ls'' := [some (.ref l0), some (.int l1), some (.int l2), some (.int l3), none, none]) (st' := [.long (lN 1)]) bf8_0 bf8_1 rfl rfl).trans ?_
  refine (bu (ls'' := [some (.ref l0), none, some (.int l2), some (.int l3), none, none]) (st' := [.int l1, .long (lN 1)]) bf8_1 bf8_2 rfl rfl).trans ?_
  refine (bu (ls'' := [some (.ref l0), none, some (.int l2), some (.int l3), none, none]) (st' := [.long (bj_lshl (lN 1) l1)]) bf8_2 bf8_3 rfl rfl).trans ?_
  refine (bu (ls'' := [some (.ref l0), none, some (.int l2), some (.int l3), some (.long (bj_lshl (lN 1) l1)), none]) (st' := []) bf8_3 bf8_5 rfl rfl).trans ?_
  refine (bu (ls'' := [some (.ref l0), none, some (.int l2), some (.int l3), some (.long (bj_lshl (lN 1) l1)), none]) (st' := [.ref l0]) bf8_5 bf8_6 rfl rfl).trans ?_
  refine (bu (ls'' := [some (.ref l0), none, none, some (.int l3), some (.long (bj_lshl (lN 1) l1)), none]) (st' := [.int l2, .ref l0]) bf8_6 bf8_7 rfl rfl).trans ?_
  exact bifc bf8_7 rfl bf8_20 bf8_10 rfl rfl rfl
theorem bk8_20 {w : am_Wd} {l0 : Nat} {l3 : Int32} {l4 : Int64} {s0 : Nat} : am_run 8 20 [some (.ref l0), none, none, some (.int l3), some (.long l4), none] [.ref s0] w = (am_gf w l0 5 2).bind fun v => am_run 8 24 [some (.ref l0), none, none, some (.int l3), some (.long l4), none] (v :: [.ref s0]) w := by
  refine (bu (ls'' := [some (.ref l0), none, none, some (.int l3), some (.long l4), none]) (st' := [.ref l0, .ref s0]) bf8_20 bf8_21 rfl rfl).trans ?_
  exact bh bf8_21 bf8_24 rfl (fun _ _ => am_ge_rf w) rfl
theorem bk8_10 {w : am_Wd} {l0 : Nat} {l3 : Int32} {l4 : Int64} {s0 : Nat} : am_run 8 10 [some (.ref l0), none, none, some (.int l3), some (.long l4), none] [.ref s0] w = (am_gf w l0 5 2).bind fun v => am_run 8 14 [some (.ref l0), none, none, some (.int l3), some (.long l4), none] (v :: [.ref s0]) w := by
  refine (bu (ls'' := [some (.ref l0), none, none, some (.int l3), some (.long l4), none]) (st' := [.ref l0, .ref s0]) bf8_10 bf8_11 rfl rfl).trans ?_
  exact bh bf8_11 bf8_14 rfl (fun _ _ => am_ge_rf w) rfl
theorem bk8_24 {w : am_Wd} {l0 : Nat} {l3 : Int32} {l4 : Int64} {s0 : Int64} {s1 : Nat} : am_run 8 24 [some (.ref l0), none, none, some (.int l3), some (.long l4), none] [.long s0, .ref s1] w = am_run 8 31 [some (.ref l0), none, none, some (.int l3), some (.long l4), none] [.long (s0 &&& (l4 ^^^ (lN 18446744073709551615))), .ref s1] w := by
  refine (bu (ls'' := [some (.ref l0), none, none, some (.int l3), some (.long l4), none]) (st' := [.long l4, .long s0, .ref s1]) bf8_24 bf8_26 rfl rfl).trans ?_
  refine (bu (ls'' := [some (.ref l0), none, none, some (.int l3), some (.long l4), none]) (st' := [.long (lN 18446744073709551615), .long l4, .long s0, .ref s1]) bf8_26 bf8_29 rfl rfl).trans ?_
  refine (bu (ls'' := [some (.ref l0), none, none, some (.int l3), some (.long l4), none]) (st' := [.long (l4 ^^^ (lN 18446744073709551615)), .long s0, .ref s1]) bf8_29 bf8_30 rfl rfl).trans ?_
  refine (bu (ls'' := [some (.ref l0), none, none, some (.int l3), some (.long l4), none]) (st' := [.long (s0 &&& (l4 ^^^ (lN 18446744073709551615))), .ref s1]) bf8_30 bf8_31 rfl rfl).trans ?_
  rfl
theorem bk8_14 {w : am_Wd} {l0 : Nat} {l3 : Int32} {l4 : Int64} {s0 : Int64} {s1 : Nat} : am_run 8 14 [some (.ref l0), none, none, some (.int l3), some (.long l4), none] [.long s0, .ref s1] w = am_run 8 31 [some (.ref l0), none, none, some (.int l3), some (.long l4), none] [.long (s0 ||| l4), .ref s1] w := by
  refine (bu (ls'' := [some (.ref l0), none, none, some (.int l3), some (.long l4), none]) (st' := [.long l4, .long s0, .ref s1]) bf8_14 bf8_16 rfl rfl).trans ?_
  refine (bu (ls'' := [some (.ref l0), none, none, some (.int l3), some (.long l4), none]) (st' := [.long (s0 ||| l4), .ref s1]) bf8_16 bf8_17 rfl rfl).trans ?_
  refine (bu (ls'' := [some (.ref l0), none, none, some (.int l3), some (.long l4), none]) (st' := [.long (s0 ||| l4), .ref s1]) bf8_17 bf8_31 rfl rfl).trans ?_
  rfl
theorem bk8_31 {w : am_Wd} {l0 : Nat} {l3 : Int32} {l4 : Int64} {s0 : Int64} {s1 : Nat} : am_run 8 31 [some (.ref l0), none, none, some (.int l3), some (.long l4), none] [.long s0, .ref s1] w = (am_pf w s1 5 2 (.long s0)).bind fun w' => am_run 8 34 [some (.ref l0), none, none, some (.int l3), some (.long l4), none] [] w' := by
  exact bh bf8_31 bf8_34 rfl (bge_pf) rfl
theorem bk8_34 {w : am_Wd} {l0 : Nat} {l3 : Int32} {l4 : Int64} : am_run 8 34 [some (.ref l0), none, none, some (.int l3), some (.long l4), none] [] w = if l3 = nI 0 then am_run 8 49 [some (.ref l0), none, none, none, some (.long l4), none] [.ref l0] w else am_run 8 39 [some (.ref l0), none, none, none, some (.long l4), none] [.ref l0] w := by
  refine (bu (ls'' := [some (.ref l0), none, none, some (.int l3), some (.long l4), none]) (st' := [.ref l0]) bf8_34 bf8_35 rfl rfl).trans ?_
  refine (bu (ls'' := [some (.ref l0), none, none, none, some (.long l4), none]) (st' := [.int l3, .ref l0]) bf8_35 bf8_36 rfl rfl).trans ?_
  exact bifc bf8_36 rfl bf8_49 bf8_39 rfl rfl rfl
theorem bk8_49 {w : am_Wd} {l0 : Nat} {l4 : Int64} {s0 : Nat} : am_run 8 49 [some (.ref l0), none, none, none, some (.long l4), none] [.ref s0] w = (am_gf w l0 5 3).bind fun v => am_run 8 53 [none, none, none, none, some (.long l4), none] (v :: [.ref s0]) w := by
  refine (bu (ls'' := [none, none, none, none, some (.long l4), none]) (st' := [.ref l0, .ref s0]) bf8_49 bf8_50 rfl rfl).trans ?_
  exact bh bf8_50 bf8_53 rfl (fun _ _ => am_ge_rf w) rfl
theorem bk8_39 {w : am_Wd} {l0 : Nat} {l4 : Int64} {s0 : Nat} : am_run 8 39 [some (.ref l0), none, none, none, some (.long l4), none] [.ref s0] w = (am_gf w l0 5 3).bind fun v => am_run 8 43 [none, none, none, none, some (.long l4), none] (v :: [.ref s0]) w := by
  refine (bu (ls'' := [none, none, none, none, some (.long l4), none]) (st' := [.ref l0, .ref s0]) bf8_39 bf8_40 rfl rfl).trans ?_
  exact bh bf8_40 bf8_43 rfl (fun _ _ => am_ge_rf w) rfl
theorem bk8_53 {w : am_Wd} {l4 : Int64} {s0 : Int64} {s1 : Nat} : am_run 8 53 [none, none, none, none, some (.long l4), none] [.long s0, .ref s1] w = am_run 8 60 [none, none, none, none, none, none] [.long (s0 &&& (l4 ^^^ (lN 18446744073709551615))), .ref s1] w := by
  refine (bu (ls'' := [none, none, none, none, none, none]) (st' := [.long l4, .long s0, .ref s1]) bf8_53 bf8_55 rfl rfl).trans ?_
  refine (bu (ls'' := [none, none, none, none, none, none]) (st' := [.long (lN 18446744073709551615), .long l4, .long s0, .ref s1]) bf8_55 bf8_58 rfl rfl).trans ?_
  refine (bu (ls'' := [none, none, none, none, none, none]) (st' := [.long (l4 ^^^ (lN 18446744073709551615)), .long s0, .ref s1]) bf8_58 bf8_59 rfl rfl).trans ?_
  refine (bu (ls'' := [none, none, none, none, none, none]) (st' := [.long (s0 &&& (l4 ^^^ (lN 18446744073709551615))), .ref s1]) bf8_59 bf8_60 rfl rfl).trans ?_
  rfl
theorem bk8_43 {w : am_Wd} {l4 : Int64} {s0 : Int64} {s1 : Nat} : am_run 8 43 [none, none, none, none, some (.long l4), none] [.long s0, .ref s1] w = am_run 8 60 [none, none, none, none, none, none] [.long (s0 ||| l4), .ref s1] w := by
  refine (bu (ls'' := [none, none, none, none, none, none]) (st' := [.long l4, .long s0, .ref s1]) bf8_43 bf8_45 rfl rfl).trans ?_
  refine (bu (ls'' := [none, none, none, none, none, none]) (st' := [.long (s0 ||| l4), .ref s1]) bf8_45 bf8_46 rfl rfl).trans ?_
  refine (bu (ls'' := [none, none, none, none, none, none]) (st' := [.long (s0 ||| l4), .ref s1]) bf8_46 bf8_60 rfl rfl).trans ?_
  rfl
theorem bk8_60 {w : am_Wd} {s0 : Int64} {s1 : Nat} : am_run 8 60 [none, none, none, none, none, none] [.long s0, .ref s1] w = (am_pf w s1 5 3 (.long s0)).bind fun w' => am_run 8 63 [none, none, none, none, none, none] [] w' := by
  exact bh bf8_60 bf8_63 rfl (bge_pf) rfl
theorem bk8_63 {w : am_Wd}  : am_run 8 63 [none, none, none, none, none, none] [] w = some (.inl none, w) := by
  exact am_e2 bf8_63 rfl (am_ge_rf w)
theorem bf9_0 : am_fetch (am_mth 9) 0 = some (.iload_n 0, 1, [], []) := by decide +kernel
theorem bf9_1 : am_fetch (am_mth 9) 1 = some (.iload_n 1, 1, [], [0]) := by decide +kernel
theorem bf9_2 : am_fetch (am_mth 9) 2 = some (.iushr, 1, [], [0, 1]) := by decide +kernel
theorem bf9_3 : am_fetch (am_mth 9) 3 = some (.iconst 1, 1, [], [0, 1]) := by decide +kernel
theorem bf9_4 : am_fetch (am_mth 9) 4 = some (.iand, 1, [], [0, 1]) := by decide +kernel
theorem bf9_5 : am_fetch (am_mth 9) 5 = some (.ifCond .eq 7, 3, [], [0, 1]) := by decide +kernel
theorem bf9_8 : am_fetch (am_mth 9) 8 = some (.iconst 1, 1, [], [0, 1]) := by decide +kernel
theorem bf9_9 : am_fetch (am_mth 9) 9 = some (.goto 4, 3, [], [0, 1]) := by decide +kernel
theorem bf9_12 : am_fetch (am_mth 9) 12 = some (.iconst 0, 1, [], [0, 1]) := by decide +kernel
theorem bf9_13 : am_fetch (am_mth 9) 13 = some (.ireturn, 1, [1], [0, 1]) := by decide +kernel
theorem bk9_0 {w : am_Wd} {l0 : Int32} {l1 : Int32} : am_run 9 0 [some (.int l0), some (.int l1)] [] w = if ((bj_iushr l0 l1) &&& (nI 1)) = nI 0 then am_run 9 12 [none, none] [] w else am_run 9 8 [none, none] [] w := by
  refine (bu (ls'' := [none, some (.int l1)]) (st' := [.int l0]) bf9_0 bf9_1 rfl rfl).trans ?_
  refine (bu (ls'' := [none, none]) (st' := [.int l1, .int l0]) bf9_1 bf9_2 rfl rfl).trans ?_
  refine (bu (ls'' := [none, none]) (st' := [.int (bj_iushr l0 l1)]) bf9_2 bf9_3 rfl rfl).trans ?_
  refine (bu (ls'' := [none, none]) (st' := [.int (nI 1), .int (bj_iushr l0 l1)]) bf9_3 bf9_4 rfl rfl).trans ?_
  refine (bu (ls'' := [none, none]) (st' := [.int ((bj_iushr l0 l1) &&& (nI 1))]) bf9_4 bf9_5 rfl rfl).trans ?_
  exact bifc bf9_5 rfl bf9_12 bf9_8 rfl rfl rfl
theorem bk9_12 {w : am_Wd}  : am_run 9 12 [none, none] [] w = am_run 9 13 [none, none] [.int (nI 0)] w := by
  refine (bu (ls'' := [none, none]) (st' := [.int (nI 0)]) bf9_12 bf9_13 rfl rfl).trans ?_
  rfl
theorem bk9_8 {w : am_Wd}  : am_run 9 8 [none, none] [] w = am_run 9 13 [none, none] [.int (nI 1)] w := by
  refine (bu (ls'' := [none, none]) (st' := [.int (nI 1)]) bf9_8 bf9_9 rfl rfl).trans ?_
  refine (bu (ls'' := [none, none]) (st' := [.int (nI 1)]) bf9_9 bf9_13 rfl rfl).trans ?_
  rfl
theorem bk9_13 {w : am_Wd} {s0 : Int32} (hb : am_ok (am_rt 1) (.int s0) = true) : am_run 9 13 [none, none] [.int s0] w = some (.inl (some (.int s0)), w) := by
  exact am_e2 bf9_13 (by unfold am_stp; exact if_pos ⟨by decide, hb⟩) (am_ge_rf w)
theorem bf10_0 : am_fetch (am_mth 10) 0 = some (.iconst 0, 1, [], [2, 3]) := by decide +kernel
theorem bf10_1 : am_fetch (am_mth 10) 1 = some (.istore_n 2, 1, [], [2, 3]) := by decide +kernel
theorem bf10_2 : am_fetch (am_mth 10) 2 = some (.iconst 0, 1, [], [3]) := by decide +kernel
theorem bf10_3 : am_fetch (am_mth 10) 3 = some (.istore_n 3, 1, [], [3]) := by decide +kernel
theorem bf10_4 : am_fetch (am_mth 10) 4 = some (.iload_n 3, 1, [], []) := by decide +kernel
theorem bf10_5 : am_fetch (am_mth 10) 5 = some (.bipush 72, 2, [], []) := by decide +kernel
theorem bf10_7 : am_fetch (am_mth 10) 7 = some (.if_icmp .ge 22, 3, [], []) := by decide +kernel
theorem bf10_10 : am_fetch (am_mth 10) 10 = some (.aload_n 0, 1, [], []) := by decide +kernel
theorem bf10_11 : am_fetch (am_mth 10) 11 = some (.getfield 11, 3, [0, 5, 0, 45], []) := by decide +kernel
theorem bf10_14 : am_fetch (am_mth 10) 14 = some (.iload_n 3, 1, [], []) := by decide +kernel
theorem bf10_15 : am_fetch (am_mth 10) 15 = some (.iaload, 1, [], []) := by decide +kernel
theorem bf10_16 : am_fetch (am_mth 10) 16 = some (.iload_n 1, 1, [], []) := by decide +kernel
theorem bf10_17 : am_fetch (am_mth 10) 17 = some (.if_icmp .ne 6, 3, [], []) := by decide +kernel
theorem bf10_20 : am_fetch (am_mth 10) 20 = some (.iinc 2 1, 3, [], []) := by decide +kernel
theorem bf10_23 : am_fetch (am_mth 10) 23 = some (.iinc 3 1, 3, [], []) := by decide +kernel
theorem bf10_26 : am_fetch (am_mth 10) 26 = some (.goto (-22), 3, [], []) := by decide +kernel
theorem bf10_29 : am_fetch (am_mth 10) 29 = some (.iload_n 2, 1, [], [0, 1, 3]) := by decide +kernel
theorem bf10_30 : am_fetch (am_mth 10) 30 = some (.ireturn, 1, [0], [0, 1, 2, 3]) := by decide +kernel
theorem bk10_0 {w : am_Wd} {l0 : Nat} {l1 : Int32} : am_run 10 0 [some (.ref l0), some (.int l1), none, none] [] w = am_run 10 4 [some (.ref l0), some (.int l1), some (.int (nI 0)), some (.int (nI 0))] [] w := by
  refine (bu (ls'' := [some (.ref l0), some (.int l1), none, none]) (st' := [.int (nI 0)]) bf10_0 bf10_1 rfl rfl).trans ?_
  refine (bu (ls'' := [some (.ref l0), some (.int l1), some (.int (nI 0)), none]) (st' := []) bf10_1 bf10_2 rfl rfl).trans ?_
  refine (bu (ls'' := [some (.ref l0), some (.int l1), some (.int (nI 0)), none]) (st' := [.int (nI 0)]) bf10_2 bf10_3 rfl rfl).trans ?_
  refine (bu (ls'' := [some (.ref l0), some (.int l1), some (.int (nI 0)), some (.int (nI 0))]) (st' := []) bf10_3 bf10_4 rfl rfl).trans ?_
  rfl
theorem bk10_4 {w : am_Wd} {l0 : Nat} {l1 : Int32} {l2 : Int32} {l3 : Int32} : am_run 10 4 [some (.ref l0), some (.int l1), some (.int l2), some (.int l3)] [] w = if (nI 72) ≤ l3 then am_run 10 29 [none, none, some (.int l2), none] [] w else am_run 10 10 [some (.ref l0), some (.int l1), some (.int l2), some (.int l3)] [] w := by
  refine (bu (ls'' := [some (.ref l0), some (.int l1), some (.int l2), some (.int l3)]) (st' := [.int l3]) bf10_4 bf10_5 rfl rfl).trans ?_
  refine (bu (ls'' := [some (.ref l0), some (.int l1), some (.int l2), some (.int l3)]) (st' := [.int (nI 72), .int l3]) bf10_5 bf10_7 rfl rfl).trans ?_
  exact bic bf10_7 rfl bf10_29 bf10_10 rfl rfl rfl
theorem bk10_29 {w : am_Wd} {l2 : Int32} : am_run 10 29 [none, none, some (.int l2), none] [] w = some (.inl (some (.int l2)), w) := by
  refine (bu (ls'' := [none, none, none, none]) (st' := [.int l2]) bf10_29 bf10_30 rfl rfl).trans ?_
  exact am_e2 bf10_30 rfl (am_ge_rf w)
theorem bk10_10 {w : am_Wd} {l0 : Nat} {l1 : Int32} {l2 : Int32} {l3 : Int32} : am_run 10 10 [some (.ref l0), some (.int l1), some (.int l2), some (.int l3)] [] w = (am_gf w l0 5 0).bind fun v => am_run 10 14 [some (.ref l0), some (.int l1), some (.int l2), some (.int l3)] (v :: []) w := by
  refine (bu (ls'' := [some (.ref l0), some (.int l1), some (.int l2), some (.int l3)]) (st' := [.ref l0]) bf10_10 bf10_11 rfl rfl).trans ?_
  exact bh bf10_11 bf10_14 rfl (fun _ _ => am_ge_rf w) rfl
theorem bk10_14 {w : am_Wd} {l0 : Nat} {l1 : Int32} {l2 : Int32} {l3 : Int32} {s0 : Nat} : am_run 10 14 [some (.ref l0), some (.int l1), some (.int l2), some (.int l3)] [.ref s0] w = (am_ri 0 w s0 l3).bind fun v => am_run 10 16 [some (.ref l0), some (.int l1), some (.int l2), some (.int l3)] (.int v :: []) w := by
  refine (bu (ls'' := [some (.ref l0), some (.int l1), some (.int l2), some (.int l3)]) (st' := [.int l3, .ref s0]) bf10_14 bf10_15 rfl rfl).trans ?_
  exact bh bf10_15 bf10_16 rfl (fun _ _ => am_ge_rf w) rfl
theorem bk10_16 {w : am_Wd} {l0 : Nat} {l1 : Int32} {l2 : Int32} {l3 : Int32} {s0 : Int32} : am_run 10 16 [some (.ref l0), some (.int l1), some (.int l2), some (.int l3)] [.int s0] w = if ¬ s0 = l1 then am_run 10 23 [some (.ref l0), some (.int l1), some (.int l2), some (.int l3)] [] w else am_run 10 20 [some (.ref l0), some (.int l1), some (.int l2), some (.int l3)] [] w := by
  refine (bu (ls'' := [some (.ref l0), some (.int l1), some (.int l2), some (.int l3)]) (st' := [.int l1, .int s0]) bf10_16 bf10_17 rfl rfl).trans ?_
  exact bic bf10_17 rfl bf10_23 bf10_20 rfl rfl rfl
theorem bk10_23 {w : am_Wd} {l0 : Nat} {l1 : Int32} {l2 : Int32} {l3 : Int32} : am_run 10 23 [some (.ref l0), some (.int l1), some (.int l2), some (.int l3)] [] w = am_run 10 4 [some (.ref l0), some (.int l1), some (.int l2), some (.int (l3 + (nI 1)))] [] w := by
  refine (bu (ls'' := [some (.ref l0), some (.int l1), some (.int l2), some (.int (l3 + (nI 1)))]) (st' := []) bf10_23 bf10_26 rfl rfl).trans ?_
  refine (bu (ls'' := [some (.ref l0), some (.int l1), some (.int l2), some (.int (l3 + (nI 1)))]) (st' := []) bf10_26 bf10_4 rfl rfl).trans ?_
  rfl
theorem bk10_20 {w : am_Wd} {l0 : Nat} {l1 : Int32} {l2 : Int32} {l3 : Int32} : am_run 10 20 [some (.ref l0), some (.int l1), some (.int l2), some (.int l3)] [] w = am_run 10 23 [some (.ref l0), some (.int l1), some (.int (l2 + (nI 1))), some (.int l3)] [] w := by
  refine (bu (ls'' := [some (.ref l0), some (.int l1), some (.int (l2 + (nI 1))), some (.int l3)]) (st' := []) bf10_20 bf10_23 rfl rfl).trans ?_
  rfl
theorem bf11_0 : am_fetch (am_mth 11) 0 = some (.lload_n 0, 1, [], [1]) := by decide +kernel
theorem bf11_1 : am_fetch (am_mth 11) 1 = some (.iload_n 2, 1, [], [0, 1]) := by decide +kernel
theorem bf11_2 : am_fetch (am_mth 11) 2 = some (.lushr, 1, [], [0, 1, 2]) := by decide +kernel
theorem bf11_3 : am_fetch (am_mth 11) 3 = some (.lconst 1, 1, [], [0, 1, 2]) := by decide +kernel
theorem bf11_4 : am_fetch (am_mth 11) 4 = some (.land, 1, [], [0, 1, 2]) := by decide +kernel
theorem bf11_5 : am_fetch (am_mth 11) 5 = some (.lconst 0, 1, [], [0, 1, 2]) := by decide +kernel
theorem bf11_6 : am_fetch (am_mth 11) 6 = some (.lcmp, 1, [], [0, 1, 2]) := by decide +kernel
theorem bf11_7 : am_fetch (am_mth 11) 7 = some (.ifCond .eq 7, 3, [], [0, 1, 2]) := by decide +kernel
theorem bf11_10 : am_fetch (am_mth 11) 10 = some (.iconst 1, 1, [], [0, 1, 2]) := by decide +kernel
theorem bf11_11 : am_fetch (am_mth 11) 11 = some (.goto 4, 3, [], [0, 1, 2]) := by decide +kernel
theorem bf11_14 : am_fetch (am_mth 11) 14 = some (.iconst 0, 1, [], [0, 1, 2]) := by decide +kernel
theorem bf11_15 : am_fetch (am_mth 11) 15 = some (.ireturn, 1, [1], [0, 1, 2]) := by decide +kernel
theorem bk11_0 {w : am_Wd} {l0 : Int64} {l2 : Int32} : am_run 11 0 [some (.long l0), none, some (.int l2)] [] w = if (lg_cmp ((bj_lushr l0 l2) &&& (lN 1)) (lN 0)) = nI 0 then am_run 11 14 [none, none, none] [] w else am_run 11 10 [none, none, none] [] w := by
  refine (bu (ls'' := [none, none, some (.int l2)]) (st' := [.long l0]) bf11_0 bf11_1 rfl rfl).trans ?_
  refine (bu (ls'' := [none, none, none]) (st' := [.int l2, .long l0]) bf11_1 bf11_2 rfl rfl).trans ?_
  refine (bu (ls'' := [none, none, none]) (st' := [.long (bj_lushr l0 l2)]) bf11_2 bf11_3 rfl rfl).trans ?_
  refine (bu (ls'' := [none, none, none]) (st' := [.long (lN 1), .long (bj_lushr l0 l2)]) bf11_3 bf11_4 rfl rfl).trans ?_
  refine (bu (ls'' := [none, none, none]) (st' := [.long ((bj_lushr l0 l2) &&& (lN 1))]) bf11_4 bf11_5 rfl rfl).trans ?_
  refine (bu (ls'' := [none, none, none]) (st' := [.long (lN 0), .long ((bj_lushr l0 l2) &&& (lN 1))]) bf11_5 bf11_6 rfl rfl).trans ?_
  refine (bu (ls'' := [none, none, none]) (st' := [.int (lg_cmp ((bj_lushr l0 l2) &&& (lN 1)) (lN 0))]) bf11_6 bf11_7 rfl rfl).trans ?_
  exact bifc bf11_7 rfl bf11_14 bf11_10 rfl rfl rfl
theorem bk11_14 {w : am_Wd}  : am_run 11 14 [none, none, none] [] w = am_run 11 15 [none, none, none] [.int (nI 0)] w := by
  refine (bu (ls'' := [none, none, none]) (st' := [.int (nI 0)]) bf11_14 bf11_15 rfl rfl).trans ?_
  rfl
theorem bk11_10 {w : am_Wd}  : am_run 11 10 [none, none, none] [] w = am_run 11 15 [none, none, none] [.int (nI 1)] w := by
  refine (bu (ls'' := [none, none, none]) (st' := [.int (nI 1)]) bf11_10 bf11_11 rfl rfl).trans ?_
  refine (bu (ls'' := [none, none, none]) (st' := [.int (nI 1)]) bf11_11 bf11_15 rfl rfl).trans ?_
  rfl
theorem bk11_15 {w : am_Wd} {s0 : Int32} (hb : am_ok (am_rt 1) (.int s0) = true) : am_run 11 15 [none, none, none] [.int s0] w = some (.inl (some (.int s0)), w) := by
  exact am_e2 bf11_15 (by unfold am_stp; exact if_pos ⟨by decide, hb⟩) (am_ge_rf w)
theorem bf12_0 : am_fetch (am_mth 12) 0 = some (.getstatic 9, 3, [1, 0, 264], []) := by decide +kernel
theorem bf12_3 : am_fetch (am_mth 12) 3 = some (.invokevirtual 15, 3, [1, 266, 267, 268, 269, 270, 0], []) := by decide +kernel
theorem bf12_6 : am_fetch (am_mth 12) 6 = some (.checkcast 16, 3, [1, 1, 272], []) := by decide +kernel
theorem bf12_9 : am_fetch (am_mth 12) 9 = some (.areturn, 1, [], []) := by decide +kernel
theorem bk12_0 {w : am_Wd}  {sg : Nat} (hg : w.2.2.2 0 = some sg) : am_run 12 0 [] [] w = am_run 12 3 [] (.ref sg :: []) w := by
  exact bu (ls'' := []) (st' := .ref sg :: []) bf12_0 bf12_3 (by show some _ = _; rw [hg]; rfl) rfl
-- bk12_3: clone
theorem bf13_0 : am_fetch (am_mth 13) 0 = some (.iload_n 0, 1, [], [2, 3]) := by decide +kernel
theorem bf13_1 : am_fetch (am_mth 13) 1 = some (.bipush 6, 2, [], [2, 3]) := by decide +kernel
theorem bf13_3 : am_fetch (am_mth 13) 3 = some (.idiv, 1, [], [2, 3]) := by decide +kernel
theorem bf13_4 : am_fetch (am_mth 13) 4 = some (.istore_n 2, 1, [], [2, 3]) := by decide +kernel
theorem bf13_5 : am_fetch (am_mth 13) 5 = some (.iload_n 0, 1, [], [3]) := by decide +kernel
theorem bf13_6 : am_fetch (am_mth 13) 6 = some (.bipush 6, 2, [], [3]) := by decide +kernel
theorem bf13_8 : am_fetch (am_mth 13) 8 = some (.irem, 1, [], [3]) := by decide +kernel
theorem bf13_9 : am_fetch (am_mth 13) 9 = some (.istore_n 3, 1, [], [3]) := by decide +kernel
theorem bf13_10 : am_fetch (am_mth 13) 10 = some (.iload_n 1, 1, [], []) := by decide +kernel
theorem bf13_11 : am_fetch (am_mth 13) 11 = some (.tableswitch 65 0 2 #[25, 38, 51], 25, [], [1]) := by decide +kernel
theorem bf13_36 : am_fetch (am_mth 13) 36 = some (.iload_n 2, 1, [], [1, 3]) := by decide +kernel
theorem bf13_37 : am_fetch (am_mth 13) 37 = some (.ifCond .le 10, 3, [], [1, 2, 3]) := by decide +kernel
theorem bf13_40 : am_fetch (am_mth 13) 40 = some (.iload_n 0, 1, [], [1, 2, 3]) := by decide +kernel
theorem bf13_41 : am_fetch (am_mth 13) 41 = some (.bipush 6, 2, [], [0, 1, 2, 3]) := by decide +kernel
theorem bf13_43 : am_fetch (am_mth 13) 43 = some (.isub, 1, [], [0, 1, 2, 3]) := by decide +kernel
theorem bf13_44 : am_fetch (am_mth 13) 44 = some (.goto 4, 3, [], [0, 1, 2, 3]) := by decide +kernel
theorem bf13_47 : am_fetch (am_mth 13) 47 = some (.iconst (-1), 1, [], [0, 1, 2, 3]) := by decide +kernel
theorem bf13_48 : am_fetch (am_mth 13) 48 = some (.ireturn, 1, [0], [0, 1, 2, 3]) := by decide +kernel
theorem bf13_49 : am_fetch (am_mth 13) 49 = some (.iload_n 3, 1, [], [1, 2]) := by decide +kernel
theorem bf13_50 : am_fetch (am_mth 13) 50 = some (.iconst 5, 1, [], [1, 2, 3]) := by decide +kernel
theorem bf13_51 : am_fetch (am_mth 13) 51 = some (.if_icmp .ge 9, 3, [], [1, 2, 3]) := by decide +kernel
theorem bf13_54 : am_fetch (am_mth 13) 54 = some (.iload_n 0, 1, [], [1, 2, 3]) := by decide +kernel
theorem bf13_55 : am_fetch (am_mth 13) 55 = some (.iconst 1, 1, [], [0, 1, 2, 3]) := by decide +kernel
theorem bf13_56 : am_fetch (am_mth 13) 56 = some (.iadd, 1, [], [0, 1, 2, 3]) := by decide +kernel
theorem bf13_57 : am_fetch (am_mth 13) 57 = some (.goto 4, 3, [], [0, 1, 2, 3]) := by decide +kernel
theorem bf13_60 : am_fetch (am_mth 13) 60 = some (.iconst (-1), 1, [], [0, 1, 2, 3]) := by decide +kernel
theorem bf13_61 : am_fetch (am_mth 13) 61 = some (.ireturn, 1, [0], [0, 1, 2, 3]) := by decide +kernel
theorem bf13_62 : am_fetch (am_mth 13) 62 = some (.iload_n 2, 1, [], [1, 3]) := by decide +kernel
theorem bf13_63 : am_fetch (am_mth 13) 63 = some (.iconst 5, 1, [], [1, 2, 3]) := by decide +kernel
theorem bf13_64 : am_fetch (am_mth 13) 64 = some (.if_icmp .ge 10, 3, [], [1, 2, 3]) := by decide +kernel
theorem bf13_67 : am_fetch (am_mth 13) 67 = some (.iload_n 0, 1, [], [1, 2, 3]) := by decide +kernel
theorem bf13_68 : am_fetch (am_mth 13) 68 = some (.bipush 6, 2, [], [0, 1, 2, 3]) := by decide +kernel
theorem bf13_70 : am_fetch (am_mth 13) 70 = some (.iadd, 1, [], [0, 1, 2, 3]) := by decide +kernel
theorem bf13_71 : am_fetch (am_mth 13) 71 = some (.goto 4, 3, [], [0, 1, 2, 3]) := by decide +kernel
theorem bf13_74 : am_fetch (am_mth 13) 74 = some (.iconst (-1), 1, [], [0, 1, 2, 3]) := by decide +kernel
theorem bf13_75 : am_fetch (am_mth 13) 75 = some (.ireturn, 1, [0], [0, 1, 2, 3]) := by decide +kernel
theorem bf13_76 : am_fetch (am_mth 13) 76 = some (.iload_n 3, 1, [], [1, 2]) := by decide +kernel
theorem bf13_77 : am_fetch (am_mth 13) 77 = some (.ifCond .le 9, 3, [], [1, 2, 3]) := by decide +kernel
theorem bf13_80 : am_fetch (am_mth 13) 80 = some (.iload_n 0, 1, [], [1, 2, 3]) := by decide +kernel
theorem bf13_81 : am_fetch (am_mth 13) 81 = some (.iconst 1, 1, [], [0, 1, 2, 3]) := by decide +kernel
theorem bf13_82 : am_fetch (am_mth 13) 82 = some (.isub, 1, [], [0, 1, 2, 3]) := by decide +kernel
theorem bf13_83 : am_fetch (am_mth 13) 83 = some (.goto 4, 3, [], [0, 1, 2, 3]) := by decide +kernel
theorem bf13_86 : am_fetch (am_mth 13) 86 = some (.iconst (-1), 1, [], [0, 1, 2, 3]) := by decide +kernel
theorem bf13_87 : am_fetch (am_mth 13) 87 = some (.ireturn, 1, [0], [0, 1, 2, 3]) := by decide +kernel
theorem bk13_0 {w : am_Wd} {l0 : Int32} {l1 : Int32} : am_run 13 0 [some (.int l0), some (.int l1), none, none] [] w = if l1 = (nI 0) then am_run 13 36 [some (.int l0), none, some (.int (l0 / (nI 6))), none] [] w else if l1 = (nI 1) then am_run 13 49 [some (.int l0), none, none, some (.int (bj_irem l0 (nI 6)))] [] w else if l1 = (nI 2) then am_run 13 62 [some (.int l0), none, some (.int (l0 / (nI 6))), none] [] w else am_run 13 76 [some (.int l0), none, none, some (.int (bj_irem l0 (nI 6)))] [] w := by
  refine (bu (ls'' := [some (.int l0), some (.int l1), none, none]) (st' := [.int l0]) bf13_0 bf13_1 rfl rfl).trans ?_
  refine (bu (ls'' := [some (.int l0), some (.int l1), none, none]) (st' := [.int (nI 6), .int l0]) bf13_1 bf13_3 rfl rfl).trans ?_
  refine (bu (ls'' := [some (.int l0), some (.int l1), none, none]) (st' := [.int (l0 / (nI 6))]) bf13_3 bf13_4 rfl rfl).trans ?_
  refine (bu (ls'' := [some (.int l0), some (.int l1), some (.int (l0 / (nI 6))), none]) (st' := []) bf13_4 bf13_5 rfl rfl).trans ?_
  refine (bu (ls'' := [some (.int l0), some (.int l1), some (.int (l0 / (nI 6))), none]) (st' := [.int l0]) bf13_5 bf13_6 rfl rfl).trans ?_
  refine (bu (ls'' := [some (.int l0), some (.int l1), some (.int (l0 / (nI 6))), none]) (st' := [.int (nI 6), .int l0]) bf13_6 bf13_8 rfl rfl).trans ?_
  refine (bu (ls'' := [some (.int l0), some (.int l1), some (.int (l0 / (nI 6))), none]) (st' := [.int (bj_irem l0 (nI 6))]) bf13_8 bf13_9 rfl rfl).trans ?_
  refine (bu (ls'' := [some (.int l0), some (.int l1), some (.int (l0 / (nI 6))), some (.int (bj_irem l0 (nI 6)))]) (st' := []) bf13_9 bf13_10 rfl rfl).trans ?_
  refine (bu (ls'' := [some (.int l0), none, some (.int (l0 / (nI 6))), some (.int (bj_irem l0 (nI 6)))]) (st' := [.int l1]) bf13_10 bf13_11 rfl rfl).trans ?_
  refine bsw (fun q => ?_) (fun q0 => ?_)
  · exact bu (ls' := [some (.int l0), none, some (.int (l0 / (nI 6))), some (.int (bj_irem l0 (nI 6)))]) (ls'' := [some (.int l0), none, some (.int (l0 / (nI 6))), none]) (st' := []) bf13_11 bf13_36 (by rw [q]; rfl) rfl
  refine bsw (fun q => ?_) (fun q1 => ?_)
  · exact bu (ls' := [some (.int l0), none, some (.int (l0 / (nI 6))), some (.int (bj_irem l0 (nI 6)))]) (ls'' := [some (.int l0), none, none, some (.int (bj_irem l0 (nI 6)))]) (st' := []) bf13_11 bf13_49 (by rw [q]; rfl) rfl
  refine bsw (fun q => ?_) (fun q2 => ?_)
  · exact bu (ls' := [some (.int l0), none, some (.int (l0 / (nI 6))), some (.int (bj_irem l0 (nI 6)))]) (ls'' := [some (.int l0), none, some (.int (l0 / (nI 6))), none]) (st' := []) bf13_11 bf13_62 (by rw [q]; rfl) rfl
  exact bsd bf13_11 bf13_76 rfl rfl (bcon (by rfl) q0 (bcon (by rfl) q1 (bcon (by rfl) q2 (bnil)))) rfl
theorem bk13_36 {w : am_Wd} {l0 : Int32} {l2 : Int32} : am_run 13 36 [some (.int l0), none, some (.int l2), none] [] w = if l2 ≤ nI 0 then am_run 13 47 [none, none, none, none] [] w else am_run 13 40 [some (.int l0), none, none, none] [] w := by
  refine (bu (ls'' := [some (.int l0), none, none, none]) (st' := [.int l2]) bf13_36 bf13_37 rfl rfl).trans ?_
  exact bifc bf13_37 rfl bf13_47 bf13_40 rfl rfl rfl
theorem bk13_49 {w : am_Wd} {l0 : Int32} {l3 : Int32} : am_run 13 49 [some (.int l0), none, none, some (.int l3)] [] w = if (nI 5) ≤ l3 then am_run 13 60 [none, none, none, none] [] w else am_run 13 54 [some (.int l0), none, none, none] [] w := by
  refine (bu (ls'' := [some (.int l0), none, none, none]) (st' := [.int l3]) bf13_49 bf13_50 rfl rfl).trans ?_
  refine (bu (ls'' := [some (.int l0), none, none, none]) (st' := [.int (nI 5), .int l3]) bf13_50 bf13_51 rfl rfl).trans ?_
  exact bic bf13_51 rfl bf13_60 bf13_54 rfl rfl rfl
theorem bk13_62 {w : am_Wd} {l0 : Int32} {l2 : Int32} : am_run 13 62 [some (.int l0), none, some (.int l2), none] [] w = if (nI 5) ≤ l2 then am_run 13 74 [none, none, none, none] [] w else am_run 13 67 [some (.int l0), none, none, none] [] w := by
  refine (bu (ls'' := [some (.int l0), none, none, none]) (st' := [.int l2]) bf13_62 bf13_63 rfl rfl).trans ?_
  refine (bu (ls'' := [some (.int l0), none, none, none]) (st' := [.int (nI 5), .int l2]) bf13_63 bf13_64 rfl rfl).trans ?_
  exact bic bf13_64 rfl bf13_74 bf13_67 rfl rfl rfl
theorem bk13_76 {w : am_Wd} {l0 : Int32} {l3 : Int32} : am_run 13 76 [some (.int l0), none, none, some (.int l3)] [] w = if l3 ≤ nI 0 then am_run 13 86 [none, none, none, none] [] w else am_run 13 80 [some (.int l0), none, none, none] [] w := by
  refine (bu (ls'' := [some (.int l0), none, none, none]) (st' := [.int l3]) bf13_76 bf13_77 rfl rfl).trans ?_
  exact bifc bf13_77 rfl bf13_86 bf13_80 rfl rfl rfl
theorem bk13_47 {w : am_Wd}  : am_run 13 47 [none, none, none, none] [] w = am_run 13 48 [none, none, none, none] [.int (-1 : Int32)] w := by
  refine (bu (ls'' := [none, none, none, none]) (st' := [.int (-1 : Int32)]) bf13_47 bf13_48 rfl rfl).trans ?_
  rfl
theorem bk13_40 {w : am_Wd} {l0 : Int32} : am_run 13 40 [some (.int l0), none, none, none] [] w = am_run 13 48 [none, none, none, none] [.int (l0 - (nI 6))] w := by
  refine (bu (ls'' := [none, none, none, none]) (st' := [.int l0]) bf13_40 bf13_41 rfl rfl).trans ?_
  refine (bu (ls'' := [none, none, none, none]) (st' := [.int (nI 6), .int l0]) bf13_41 bf13_43 rfl rfl).trans ?_
  refine (bu (ls'' := [none, none, none, none]) (st' := [.int (l0 - (nI 6))]) bf13_43 bf13_44 rfl rfl).trans ?_
  refine (bu (ls'' := [none, none, none, none]) (st' := [.int (l0 - (nI 6))]) bf13_44 bf13_48 rfl rfl).trans ?_
  rfl
theorem bk13_60 {w : am_Wd}  : am_run 13 60 [none, none, none, none] [] w = am_run 13 61 [none, none, none, none] [.int (-1 : Int32)] w := by
  refine (bu (ls'' := [none, none, none, none]) (st' := [.int (-1 : Int32)]) bf13_60 bf13_61 rfl rfl).trans ?_
  rfl
theorem bk13_54 {w : am_Wd} {l0 : Int32} : am_run 13 54 [some (.int l0), none, none, none] [] w = am_run 13 61 [none, none, none, none] [.int (l0 + (nI 1))] w := by
  refine (bu (ls'' := [none, none, none, none]) (st' := [.int l0]) bf13_54 bf13_55 rfl rfl).trans ?_
  refine (bu (ls'' := [none, none, none, none]) (st' := [.int (nI 1), .int l0]) bf13_55 bf13_56 rfl rfl).trans ?_
  refine (bu (ls'' := [none, none, none, none]) (st' := [.int (l0 + (nI 1))]) bf13_56 bf13_57 rfl rfl).trans ?_
  refine (bu (ls'' := [none, none, none, none]) (st' := [.int (l0 + (nI 1))]) bf13_57 bf13_61 rfl rfl).trans ?_
  rfl
theorem bk13_74 {w : am_Wd}  : am_run 13 74 [none, none, none, none] [] w = am_run 13 75 [none, none, none, none] [.int (-1 : Int32)] w := by
  refine (bu (ls'' := [none, none, none, none]) (st' := [.int (-1 : Int32)]) bf13_74 bf13_75 rfl rfl).trans ?_
  rfl
theorem bk13_67 {w : am_Wd} {l0 : Int32} : am_run 13 67 [some (.int l0), none, none, none] [] w = am_run 13 75 [none, none, none, none] [.int (l0 + (nI 6))] w := by
  refine (bu (ls'' := [none, none, none, none]) (st' := [.int l0]) bf13_67 bf13_68 rfl rfl).trans ?_
  refine (bu (ls'' := [none, none, none, none]) (st' := [.int (nI 6), .int l0]) bf13_68 bf13_70 rfl rfl).trans ?_
  refine (bu (ls'' := [none, none, none, none]) (st' := [.int (l0 + (nI 6))]) bf13_70 bf13_71 rfl rfl).trans ?_
  refine (bu (ls'' := [none, none, none, none]) (st' := [.int (l0 + (nI 6))]) bf13_71 bf13_75 rfl rfl).trans ?_
  rfl
theorem bk13_86 {w : am_Wd}  : am_run 13 86 [none, none, none, none] [] w = am_run 13 87 [none, none, none, none] [.int (-1 : Int32)] w := by
  refine (bu (ls'' := [none, none, none, none]) (st' := [.int (-1 : Int32)]) bf13_86 bf13_87 rfl rfl).trans ?_
  rfl
theorem bk13_80 {w : am_Wd} {l0 : Int32} : am_run 13 80 [some (.int l0), none, none, none] [] w = am_run 13 87 [none, none, none, none] [.int (l0 - (nI 1))] w := by
  refine (bu (ls'' := [none, none, none, none]) (st' := [.int l0]) bf13_80 bf13_81 rfl rfl).trans ?_
  refine (bu (ls'' := [none, none, none, none]) (st' := [.int (nI 1), .int l0]) bf13_81 bf13_82 rfl rfl).trans ?_
  refine (bu (ls'' := [none, none, none, none]) (st' := [.int (l0 - (nI 1))]) bf13_82 bf13_83 rfl rfl).trans ?_
  refine (bu (ls'' := [none, none, none, none]) (st' := [.int (l0 - (nI 1))]) bf13_83 bf13_87 rfl rfl).trans ?_
  rfl
theorem bk13_48 {w : am_Wd} {s0 : Int32} : am_run 13 48 [none, none, none, none] [.int s0] w = some (.inl (some (.int s0)), w) := by
  exact am_e2 bf13_48 rfl (am_ge_rf w)
theorem bk13_61 {w : am_Wd} {s0 : Int32} : am_run 13 61 [none, none, none, none] [.int s0] w = some (.inl (some (.int s0)), w) := by
  exact am_e2 bf13_61 rfl (am_ge_rf w)
theorem bk13_75 {w : am_Wd} {s0 : Int32} : am_run 13 75 [none, none, none, none] [.int s0] w = some (.inl (some (.int s0)), w) := by
  exact am_e2 bf13_75 rfl (am_ge_rf w)
theorem bk13_87 {w : am_Wd} {s0 : Int32} : am_run 13 87 [none, none, none, none] [.int s0] w = some (.inl (some (.int s0)), w) := by
  exact am_e2 bf13_87 rfl (am_ge_rf w)
theorem bf14_0 : am_fetch (am_mth 14) 0 = some (.iload_n 2, 1, [], [1]) := by decide +kernel
theorem bf14_1 : am_fetch (am_mth 14) 1 = some (.tableswitch 41 0 2 #[27, 32, 36], 27, [], [1, 2]) := by decide +kernel
theorem bf14_28 : am_fetch (am_mth 14) 28 = some (.lload_n 0, 1, [], [1, 2]) := by decide +kernel
theorem bf14_29 : am_fetch (am_mth 14) 29 = some (.bipush 6, 2, [], [0, 1, 2]) := by decide +kernel
theorem bf14_31 : am_fetch (am_mth 14) 31 = some (.lushr, 1, [], [0, 1, 2]) := by decide +kernel
theorem bf14_32 : am_fetch (am_mth 14) 32 = some (.lreturn, 1, [], [0, 1, 2]) := by decide +kernel
theorem bf14_33 : am_fetch (am_mth 14) 33 = some (.lload_n 0, 1, [], [1, 2]) := by decide +kernel
theorem bf14_34 : am_fetch (am_mth 14) 34 = some (.iconst 1, 1, [], [0, 1, 2]) := by decide +kernel
theorem bf14_35 : am_fetch (am_mth 14) 35 = some (.lshl, 1, [], [0, 1, 2]) := by decide +kernel
theorem bf14_36 : am_fetch (am_mth 14) 36 = some (.lreturn, 1, [], [0, 1, 2]) := by decide +kernel
theorem bf14_37 : am_fetch (am_mth 14) 37 = some (.lload_n 0, 1, [], [1, 2]) := by decide +kernel
theorem bf14_38 : am_fetch (am_mth 14) 38 = some (.bipush 6, 2, [], [0, 1, 2]) := by decide +kernel
theorem bf14_40 : am_fetch (am_mth 14) 40 = some (.lshl, 1, [], [0, 1, 2]) := by decide +kernel
theorem bf14_41 : am_fetch (am_mth 14) 41 = some (.lreturn, 1, [], [0, 1, 2]) := by decide +kernel
theorem bf14_42 : am_fetch (am_mth 14) 42 = some (.lload_n 0, 1, [], [1, 2]) := by decide +kernel
theorem bf14_43 : am_fetch (am_mth 14) 43 = some (.iconst 1, 1, [], [0, 1, 2]) := by decide +kernel
theorem bf14_44 : am_fetch (am_mth 14) 44 = some (.lushr, 1, [], [0, 1, 2]) := by decide +kernel
theorem bf14_45 : am_fetch (am_mth 14) 45 = some (.lreturn, 1, [], [0, 1, 2]) := by decide +kernel
theorem bk14_0 {w : am_Wd} {l0 : Int64} {l2 : Int32} : am_run 14 0 [some (.long l0), none, some (.int l2)] [] w = if l2 = (nI 0) then am_run 14 28 [some (.long l0), none, none] [] w else if l2 = (nI 1) then am_run 14 33 [some (.long l0), none, none] [] w else if l2 = (nI 2) then am_run 14 37 [some (.long l0), none, none] [] w else am_run 14 42 [some (.long l0), none, none] [] w := by
  refine (bu (ls'' := [some (.long l0), none, none]) (st' := [.int l2]) bf14_0 bf14_1 rfl rfl).trans ?_
  refine bsw (fun q => ?_) (fun q0 => ?_)
  · exact bu (ls' := [some (.long l0), none, none]) (ls'' := [some (.long l0), none, none]) (st' := []) bf14_1 bf14_28 (by rw [q]; rfl) rfl
  refine bsw (fun q => ?_) (fun q1 => ?_)
  · exact bu (ls' := [some (.long l0), none, none]) (ls'' := [some (.long l0), none, none]) (st' := []) bf14_1 bf14_33 (by rw [q]; rfl) rfl
  refine bsw (fun q => ?_) (fun q2 => ?_)
  · exact bu (ls' := [some (.long l0), none, none]) (ls'' := [some (.long l0), none, none]) (st' := []) bf14_1 bf14_37 (by rw [q]; rfl) rfl
  exact bsd bf14_1 bf14_42 rfl rfl (bcon (by rfl) q0 (bcon (by rfl) q1 (bcon (by rfl) q2 (bnil)))) rfl
theorem bk14_28 {w : am_Wd} {l0 : Int64} : am_run 14 28 [some (.long l0), none, none] [] w = some (.inl (some (.long (bj_lushr l0 (nI 6)))), w) := by
  refine (bu (ls'' := [none, none, none]) (st' := [.long l0]) bf14_28 bf14_29 rfl rfl).trans ?_
  refine (bu (ls'' := [none, none, none]) (st' := [.int (nI 6), .long l0]) bf14_29 bf14_31 rfl rfl).trans ?_
  refine (bu (ls'' := [none, none, none]) (st' := [.long (bj_lushr l0 (nI 6))]) bf14_31 bf14_32 rfl rfl).trans ?_
  exact am_e2 bf14_32 rfl (am_ge_rf w)
theorem bk14_33 {w : am_Wd} {l0 : Int64} : am_run 14 33 [some (.long l0), none, none] [] w = some (.inl (some (.long (bj_lshl l0 (nI 1)))), w) := by
  refine (bu (ls'' := [none, none, none]) (st' := [.long l0]) bf14_33 bf14_34 rfl rfl).trans ?_
  refine (bu (ls'' := [none, none, none]) (st' := [.int (nI 1), .long l0]) bf14_34 bf14_35 rfl rfl).trans ?_
  refine (bu (ls'' := [none, none, none]) (st' := [.long (bj_lshl l0 (nI 1))]) bf14_35 bf14_36 rfl rfl).trans ?_
  exact am_e2 bf14_36 rfl (am_ge_rf w)
theorem bk14_37 {w : am_Wd} {l0 : Int64} : am_run 14 37 [some (.long l0), none, none] [] w = some (.inl (some (.long (bj_lshl l0 (nI 6)))), w) := by
  refine (bu (ls'' := [none, none, none]) (st' := [.long l0]) bf14_37 bf14_38 rfl rfl).trans ?_
  refine (bu (ls'' := [none, none, none]) (st' := [.int (nI 6), .long l0]) bf14_38 bf14_40 rfl rfl).trans ?_
  refine (bu (ls'' := [none, none, none]) (st' := [.long (bj_lshl l0 (nI 6))]) bf14_40 bf14_41 rfl rfl).trans ?_
  exact am_e2 bf14_41 rfl (am_ge_rf w)
theorem bk14_42 {w : am_Wd} {l0 : Int64} : am_run 14 42 [some (.long l0), none, none] [] w = some (.inl (some (.long (bj_lushr l0 (nI 1)))), w) := by
  refine (bu (ls'' := [none, none, none]) (st' := [.long l0]) bf14_42 bf14_43 rfl rfl).trans ?_
  refine (bu (ls'' := [none, none, none]) (st' := [.int (nI 1), .long l0]) bf14_43 bf14_44 rfl rfl).trans ?_
  refine (bu (ls'' := [none, none, none]) (st' := [.long (bj_lushr l0 (nI 1))]) bf14_44 bf14_45 rfl rfl).trans ?_
  exact am_e2 bf14_45 rfl (am_ge_rf w)
theorem bf15_0 : am_fetch (am_mth 15) 0 = some (.iload_n 0, 1, [], []) := by decide +kernel
theorem bf15_1 : am_fetch (am_mth 15) 1 = some (.iconst 3, 1, [], [0]) := by decide +kernel
theorem bf15_2 : am_fetch (am_mth 15) 2 = some (.iadd, 1, [], [0]) := by decide +kernel
theorem bf15_3 : am_fetch (am_mth 15) 3 = some (.iload_n 1, 1, [], [0]) := by decide +kernel
theorem bf15_4 : am_fetch (am_mth 15) 4 = some (.iadd, 1, [], [0, 1]) := by decide +kernel
theorem bf15_5 : am_fetch (am_mth 15) 5 = some (.iconst 3, 1, [], [0, 1]) := by decide +kernel
theorem bf15_6 : am_fetch (am_mth 15) 6 = some (.iand, 1, [], [0, 1]) := by decide +kernel
theorem bf15_7 : am_fetch (am_mth 15) 7 = some (.ireturn, 1, [0], [0, 1]) := by decide +kernel
theorem bk15_0 {w : am_Wd} {l0 : Int32} {l1 : Int32} : am_run 15 0 [some (.int l0), some (.int l1)] [] w = some (.inl (some (.int (((l0 + (nI 3)) + l1) &&& (nI 3)))), w) := by
  refine (bu (ls'' := [none, some (.int l1)]) (st' := [.int l0]) bf15_0 bf15_1 rfl rfl).trans ?_
  refine (bu (ls'' := [none, some (.int l1)]) (st' := [.int (nI 3), .int l0]) bf15_1 bf15_2 rfl rfl).trans ?_
  refine (bu (ls'' := [none, some (.int l1)]) (st' := [.int (l0 + (nI 3))]) bf15_2 bf15_3 rfl rfl).trans ?_
  refine (bu (ls'' := [none, none]) (st' := [.int l1, .int (l0 + (nI 3))]) bf15_3 bf15_4 rfl rfl).trans ?_
  refine (bu (ls'' := [none, none]) (st' := [.int ((l0 + (nI 3)) + l1)]) bf15_4 bf15_5 rfl rfl).trans ?_
  refine (bu (ls'' := [none, none]) (st' := [.int (nI 3), .int ((l0 + (nI 3)) + l1)]) bf15_5 bf15_6 rfl rfl).trans ?_
  refine (bu (ls'' := [none, none]) (st' := [.int (((l0 + (nI 3)) + l1) &&& (nI 3))]) bf15_6 bf15_7 rfl rfl).trans ?_
  exact am_e2 bf15_7 rfl (am_ge_rf w)
theorem bf16_0 : am_fetch (am_mth 16) 0 = some (.iload_n 0, 1, [], [2, 3]) := by decide +kernel
theorem bf16_1 : am_fetch (am_mth 16) 1 = some (.bipush 6, 2, [], [2, 3]) := by decide +kernel
theorem bf16_3 : am_fetch (am_mth 16) 3 = some (.idiv, 1, [], [2, 3]) := by decide +kernel
theorem bf16_4 : am_fetch (am_mth 16) 4 = some (.iload_n 1, 1, [], [2, 3]) := by decide +kernel
theorem bf16_5 : am_fetch (am_mth 16) 5 = some (.bipush 6, 2, [], [2, 3]) := by decide +kernel
theorem bf16_7 : am_fetch (am_mth 16) 7 = some (.idiv, 1, [], [2, 3]) := by decide +kernel
theorem bf16_8 : am_fetch (am_mth 16) 8 = some (.isub, 1, [], [2, 3]) := by decide +kernel
theorem bf16_9 : am_fetch (am_mth 16) 9 = some (.invokestatic 20, 3, [3, 692, 693, 24, 694], [2, 3]) := by decide +kernel
theorem bf16_12 : am_fetch (am_mth 16) 12 = some (.istore_n 2, 1, [], [2, 3]) := by decide +kernel
theorem bf16_13 : am_fetch (am_mth 16) 13 = some (.iload_n 0, 1, [], [3]) := by decide +kernel
theorem bf16_14 : am_fetch (am_mth 16) 14 = some (.bipush 6, 2, [], [0, 3]) := by decide +kernel
theorem bf16_16 : am_fetch (am_mth 16) 16 = some (.irem, 1, [], [0, 3]) := by decide +kernel
theorem bf16_17 : am_fetch (am_mth 16) 17 = some (.iload_n 1, 1, [], [0, 3]) := by decide +kernel
theorem bf16_18 : am_fetch (am_mth 16) 18 = some (.bipush 6, 2, [], [0, 1, 3]) := by decide +kernel
theorem bf16_20 : am_fetch (am_mth 16) 20 = some (.irem, 1, [], [0, 1, 3]) := by decide +kernel
theorem bf16_21 : am_fetch (am_mth 16) 21 = some (.isub, 1, [], [0, 1, 3]) := by decide +kernel
theorem bf16_22 : am_fetch (am_mth 16) 22 = some (.invokestatic 20, 3, [3, 692, 693, 24, 694], [0, 1, 3]) := by decide +kernel
theorem bf16_25 : am_fetch (am_mth 16) 25 = some (.istore_n 3, 1, [], [0, 1, 3]) := by decide +kernel
theorem bf16_26 : am_fetch (am_mth 16) 26 = some (.iload_n 2, 1, [], [0, 1]) := by decide +kernel
theorem bf16_27 : am_fetch (am_mth 16) 27 = some (.iload_n 3, 1, [], [0, 1, 2]) := by decide +kernel
theorem bf16_28 : am_fetch (am_mth 16) 28 = some (.iadd, 1, [], [0, 1, 2, 3]) := by decide +kernel
theorem bf16_29 : am_fetch (am_mth 16) 29 = some (.iconst 2, 1, [], [0, 1, 2, 3]) := by decide +kernel
theorem bf16_30 : am_fetch (am_mth 16) 30 = some (.if_icmp .gt 7, 3, [], [0, 1, 2, 3]) := by decide +kernel
theorem bf16_33 : am_fetch (am_mth 16) 33 = some (.iconst 1, 1, [], [0, 1, 2, 3]) := by decide +kernel
theorem bf16_34 : am_fetch (am_mth 16) 34 = some (.goto 4, 3, [], [0, 1, 2, 3]) := by decide +kernel
theorem bf16_37 : am_fetch (am_mth 16) 37 = some (.iconst 0, 1, [], [0, 1, 2, 3]) := by decide +kernel
theorem bf16_38 : am_fetch (am_mth 16) 38 = some (.ireturn, 1, [1], [0, 1, 2, 3]) := by decide +kernel
theorem bk16_0 {w : am_Wd} {l0 : Int32} {l1 : Int32} : am_run 16 0 [some (.int l0), some (.int l1), none, none] [] w = if (nI 2) < ((bj_abs ((l0 / (nI 6)) - (l1 / (nI 6)))) + (bj_abs ((bj_irem l0 (nI 6)) - (bj_irem l1 (nI 6))))) then am_run 16 37 [none, none, none, none] [] w else am_run 16 33 [none, none, none, none] [] w := by
  refine (bu (ls'' := [some (.int l0), some (.int l1), none, none]) (st' := [.int l0]) bf16_0 bf16_1 rfl rfl).trans ?_
  refine (bu (ls'' := [some (.int l0), some (.int l1), none, none]) (st' := [.int (nI 6), .int l0]) bf16_1 bf16_3 rfl rfl).trans ?_
  refine (bu (ls'' := [some (.int l0), some (.int l1), none, none]) (st' := [.int (l0 / (nI 6))]) bf16_3 bf16_4 rfl rfl).trans ?_
  refine (bu (ls'' := [some (.int l0), some (.int l1), none, none]) (st' := [.int l1, .int (l0 / (nI 6))]) bf16_4 bf16_5 rfl rfl).trans ?_
  refine (bu (ls'' := [some (.int l0), some (.int l1), none, none]) (st' := [.int (nI 6), .int l1, .int (l0 / (nI 6))]) bf16_5 bf16_7 rfl rfl).trans ?_
  refine (bu (ls'' := [some (.int l0), some (.int l1), none, none]) (st' := [.int (l1 / (nI 6)), .int (l0 / (nI 6))]) bf16_7 bf16_8 rfl rfl).trans ?_
  refine (bu (ls'' := [some (.int l0), some (.int l1), none, none]) (st' := [.int ((l0 / (nI 6)) - (l1 / (nI 6)))]) bf16_8 bf16_9 rfl rfl).trans ?_
  refine (bu (ls'' := [some (.int l0), some (.int l1), none, none]) (st' := [.int (bj_abs ((l0 / (nI 6)) - (l1 / (nI 6))))]) bf16_9 bf16_12 rfl rfl).trans ?_
  refine (bu (ls'' := [some (.int l0), some (.int l1), some (.int (bj_abs ((l0 / (nI 6)) - (l1 / (nI 6))))), none]) (st' := []) bf16_12 bf16_13 rfl rfl).trans ?_
  refine (bu (ls'' := [none, some (.int l1), some (.int (bj_abs ((l0 / (nI 6)) - (l1 / (nI 6))))), none]) (st' := [.int l0]) bf16_13 bf16_14 rfl rfl).trans ?_
  refine (bu (ls'' := [none, some (.int l1), some (.int (bj_abs ((l0 / (nI 6)) - (l1 / (nI 6))))), none]) (st' := [.int (nI 6), .int l0]) bf16_14 bf16_16 rfl rfl).trans ?_
  refine (bu (ls'' := [none, some (.int l1), some (.int (bj_abs ((l0 / (nI 6)) - (l1 / (nI 6))))), none]) (st' := [.int (bj_irem l0 (nI 6))]) bf16_16 bf16_17 rfl rfl).trans ?_
  refine (bu (ls'' := [none, none, some (.int (bj_abs ((l0 / (nI 6)) - (l1 / (nI 6))))), none]) (st' := [.int l1, .int (bj_irem l0 (nI 6))]) bf16_17 bf16_18 rfl rfl).trans ?_
  refine (bu (ls'' := [none, none, some (.int (bj_abs ((l0 / (nI 6)) - (l1 / (nI 6))))), none]) (st' := [.int (nI 6), .int l1, .int (bj_irem l0 (nI 6))]) bf16_18 bf16_20 rfl rfl).trans ?_
  refine (bu (ls'' := [none, none, some (.int (bj_abs ((l0 / (nI 6)) - (l1 / (nI 6))))), none]) (st' := [.int (bj_irem l1 (nI 6)), .int (bj_irem l0 (nI 6))]) bf16_20 bf16_21 rfl rfl).trans ?_
  refine (bu (ls'' := [none, none, some (.int (bj_abs ((l0 / (nI 6)) - (l1 / (nI 6))))), none]) (st' := [.int ((bj_irem l0 (nI 6)) - (bj_irem l1 (nI 6)))]) bf16_21 bf16_22 rfl rfl).trans ?_
  refine (bu (ls'' := [none, none, some (.int (bj_abs ((l0 / (nI 6)) - (l1 / (nI 6))))), none]) (st' := [.int (bj_abs ((bj_irem l0 (nI 6)) - (bj_irem l1 (nI 6))))]) bf16_22 bf16_25 rfl rfl).trans ?_
  refine (bu (ls'' := [none, none, some (.int (bj_abs ((l0 / (nI 6)) - (l1 / (nI 6))))), some (.int (bj_abs ((bj_irem l0 (nI 6)) - (bj_irem l1 (nI 6)))))]) (st' := []) bf16_25 bf16_26 rfl rfl).trans ?_
  refine (bu (ls'' := [none, none, none, some (.int (bj_abs ((bj_irem l0 (nI 6)) - (bj_irem l1 (nI 6)))))]) (st' := [.int (bj_abs ((l0 / (nI 6)) - (l1 / (nI 6))))]) bf16_26 bf16_27 rfl rfl).trans ?_
  refine (bu (ls'' := [none, none, none, none]) (st' := [.int (bj_abs ((bj_irem l0 (nI 6)) - (bj_irem l1 (nI 6)))), .int (bj_abs ((l0 / (nI 6)) - (l1 / (nI 6))))]) bf16_27 bf16_28 rfl rfl).trans ?_
  refine (bu (ls'' := [none, none, none, none]) (st' := [.int ((bj_abs ((l0 / (nI 6)) - (l1 / (nI 6)))) + (bj_abs ((bj_irem l0 (nI 6)) - (bj_irem l1 (nI 6)))))]) bf16_28 bf16_29 rfl rfl).trans ?_
  refine (bu (ls'' := [none, none, none, none]) (st' := [.int (nI 2), .int ((bj_abs ((l0 / (nI 6)) - (l1 / (nI 6)))) + (bj_abs ((bj_irem l0 (nI 6)) - (bj_irem l1 (nI 6)))))]) bf16_29 bf16_30 rfl rfl).trans ?_
  exact bic bf16_30 rfl bf16_37 bf16_33 rfl rfl rfl
theorem bk16_37 {w : am_Wd}  : am_run 16 37 [none, none, none, none] [] w = am_run 16 38 [none, none, none, none] [.int (nI 0)] w := by
  refine (bu (ls'' := [none, none, none, none]) (st' := [.int (nI 0)]) bf16_37 bf16_38 rfl rfl).trans ?_
  rfl
theorem bk16_33 {w : am_Wd}  : am_run 16 33 [none, none, none, none] [] w = am_run 16 38 [none, none, none, none] [.int (nI 1)] w := by
  refine (bu (ls'' := [none, none, none, none]) (st' := [.int (nI 1)]) bf16_33 bf16_34 rfl rfl).trans ?_
  refine (bu (ls'' := [none, none, none, none]) (st' := [.int (nI 1)]) bf16_34 bf16_38 rfl rfl).trans ?_
  rfl
theorem bk16_38 {w : am_Wd} {s0 : Int32} (hb : am_ok (am_rt 1) (.int s0) = true) : am_run 16 38 [none, none, none, none] [.int s0] w = some (.inl (some (.int s0)), w) := by
  exact am_e2 bf16_38 (by unfold am_stp; exact if_pos ⟨by decide, hb⟩) (am_ge_rf w)
theorem bf17_0 : am_fetch (am_mth 17) 0 = some (.aload_n 0, 1, [], []) := by decide +kernel
theorem bf17_1 : am_fetch (am_mth 17) 1 = some (.getfield 29, 3, [0, 6, 3, 306], [0]) := by decide +kernel
theorem bf17_4 : am_fetch (am_mth 17) 4 = some (.iconst 4, 1, [], [0]) := by decide +kernel
theorem bf17_5 : am_fetch (am_mth 17) 5 = some (.idiv, 1, [], [0]) := by decide +kernel
theorem bf17_6 : am_fetch (am_mth 17) 6 = some (.ireturn, 1, [0], [0]) := by decide +kernel
theorem bk17_0 {w : am_Wd} {l0 : Nat} : am_run 17 0 [some (.ref l0)] [] w = (am_gf w l0 6 3).bind fun v => am_run 17 4 [none] (v :: []) w := by
  refine (bu (ls'' := [none]) (st' := [.ref l0]) bf17_0 bf17_1 rfl rfl).trans ?_
  exact bh bf17_1 bf17_4 rfl (fun _ _ => am_ge_rf w) rfl
theorem bk17_4 {w : am_Wd} {s0 : Int32} : am_run 17 4 [none] [.int s0] w = some (.inl (some (.int (s0 / (nI 4)))), w) := by
  refine (bu (ls'' := [none]) (st' := [.int (nI 4), .int s0]) bf17_4 bf17_5 rfl rfl).trans ?_
  refine (bu (ls'' := [none]) (st' := [.int (s0 / (nI 4))]) bf17_5 bf17_6 rfl rfl).trans ?_
  exact am_e2 bf17_6 rfl (am_ge_rf w)
theorem bf18_0 : am_fetch (am_mth 18) 0 = some (.aload_n 0, 1, [], []) := by decide +kernel
theorem bf18_1 : am_fetch (am_mth 18) 1 = some (.getfield 29, 3, [0, 6, 3, 306], [0]) := by decide +kernel
theorem bf18_4 : am_fetch (am_mth 18) 4 = some (.iconst 4, 1, [], [0]) := by decide +kernel
theorem bf18_5 : am_fetch (am_mth 18) 5 = some (.irem, 1, [], [0]) := by decide +kernel
theorem bf18_6 : am_fetch (am_mth 18) 6 = some (.ireturn, 1, [0], [0]) := by decide +kernel
theorem bk18_0 {w : am_Wd} {l0 : Nat} : am_run 18 0 [some (.ref l0)] [] w = (am_gf w l0 6 3).bind fun v => am_run 18 4 [none] (v :: []) w := by
  refine (bu (ls'' := [none]) (st' := [.ref l0]) bf18_0 bf18_1 rfl rfl).trans ?_
  exact bh bf18_1 bf18_4 rfl (fun _ _ => am_ge_rf w) rfl
theorem bk18_4 {w : am_Wd} {s0 : Int32} : am_run 18 4 [none] [.int s0] w = some (.inl (some (.int (bj_irem s0 (nI 4)))), w) := by
  refine (bu (ls'' := [none]) (st' := [.int (nI 4), .int s0]) bf18_4 bf18_5 rfl rfl).trans ?_
  refine (bu (ls'' := [none]) (st' := [.int (bj_irem s0 (nI 4))]) bf18_5 bf18_6 rfl rfl).trans ?_
  exact am_e2 bf18_6 rfl (am_ge_rf w)
theorem bf19_0 : am_fetch (am_mth 19) 0 = some (.iload_n 0, 1, [], []) := by decide +kernel
theorem bf19_1 : am_fetch (am_mth 19) 1 = some (.ifCond .ge 7, 3, [], []) := by decide +kernel
theorem bf19_4 : am_fetch (am_mth 19) 4 = some (.iload_n 0, 1, [], []) := by decide +kernel
theorem bf19_5 : am_fetch (am_mth 19) 5 = some (.goto 8, 3, [], [0]) := by decide +kernel
theorem bf19_8 : am_fetch (am_mth 19) 8 = some (.iconst 2, 1, [], []) := by decide +kernel
theorem bf19_9 : am_fetch (am_mth 19) 9 = some (.iload_n 0, 1, [], []) := by decide +kernel
theorem bf19_10 : am_fetch (am_mth 19) 10 = some (.imul, 1, [], [0]) := by decide +kernel
theorem bf19_11 : am_fetch (am_mth 19) 11 = some (.iconst 2, 1, [], [0]) := by decide +kernel
theorem bf19_12 : am_fetch (am_mth 19) 12 = some (.iadd, 1, [], [0]) := by decide +kernel
theorem bf19_13 : am_fetch (am_mth 19) 13 = some (.ireturn, 1, [0], [0]) := by decide +kernel
theorem bk19_0 {w : am_Wd} {l0 : Int32} : am_run 19 0 [some (.int l0)] [] w = if nI 0 ≤ l0 then am_run 19 8 [some (.int l0)] [] w else am_run 19 4 [some (.int l0)] [] w := by
  refine (bu (ls'' := [some (.int l0)]) (st' := [.int l0]) bf19_0 bf19_1 rfl rfl).trans ?_
  exact bifc bf19_1 rfl bf19_8 bf19_4 rfl rfl rfl
theorem bk19_8 {w : am_Wd} {l0 : Int32} : am_run 19 8 [some (.int l0)] [] w = am_run 19 13 [none] [.int (((nI 2) * l0) + (nI 2))] w := by
  refine (bu (ls'' := [some (.int l0)]) (st' := [.int (nI 2)]) bf19_8 bf19_9 rfl rfl).trans ?_
  refine (bu (ls'' := [none]) (st' := [.int l0, .int (nI 2)]) bf19_9 bf19_10 rfl rfl).trans ?_
  refine (bu (ls'' := [none]) (st' := [.int ((nI 2) * l0)]) bf19_10 bf19_11 rfl rfl).trans ?_
  refine (bu (ls'' := [none]) (st' := [.int (nI 2), .int ((nI 2) * l0)]) bf19_11 bf19_12 rfl rfl).trans ?_
  refine (bu (ls'' := [none]) (st' := [.int (((nI 2) * l0) + (nI 2))]) bf19_12 bf19_13 rfl rfl).trans ?_
  rfl
theorem bk19_4 {w : am_Wd} {l0 : Int32} : am_run 19 4 [some (.int l0)] [] w = am_run 19 13 [none] [.int l0] w := by
  refine (bu (ls'' := [none]) (st' := [.int l0]) bf19_4 bf19_5 rfl rfl).trans ?_
  refine (bu (ls'' := [none]) (st' := [.int l0]) bf19_5 bf19_13 rfl rfl).trans ?_
  rfl
theorem bk19_13 {w : am_Wd} {s0 : Int32} : am_run 19 13 [none] [.int s0] w = some (.inl (some (.int s0)), w) := by
  exact am_e2 bf19_13 rfl (am_ge_rf w)
theorem bf20_0 : am_fetch (am_mth 20) 0 = some (.lconst 1, 1, [], [4, 5]) := by decide +kernel
theorem bf20_1 : am_fetch (am_mth 20) 1 = some (.iload_n 1, 1, [], [4, 5]) := by decide +kernel
theorem bf20_2 : am_fetch (am_mth 20) 2 = some (.lshl, 1, [], [1, 4, 5]) := by decide +kernel
theorem bf20_3 : am_fetch (am_mth 20) 3 = some (.lstore 4, 2, [], [1, 4, 5]) := by decide +kernel
theorem bf20_5 : am_fetch (am_mth 20) 5 = some (.aload_n 0, 1, [], [1, 5]) := by decide +kernel
theorem bf20_6 : am_fetch (am_mth 20) 6 = some (.getfield 9, 3, [0, 7, 0, 273], [1, 5]) := by decide +kernel
theorem bf20_9 : am_fetch (am_mth 20) 9 = some (.iload_n 2, 1, [], [1, 5]) := by decide +kernel
theorem bf20_10 : am_fetch (am_mth 20) 10 = some (.iload_n 3, 1, [], [1, 5]) := by decide +kernel
theorem bf20_11 : am_fetch (am_mth 20) 11 = some (.ifCond .eq 19, 3, [], [1, 5]) := by decide +kernel
theorem bf20_14 : am_fetch (am_mth 20) 14 = some (.aload_n 0, 1, [], [1, 5]) := by decide +kernel
theorem bf20_15 : am_fetch (am_mth 20) 15 = some (.getfield 9, 3, [0, 7, 0, 273], [1, 5]) := by decide +kernel
theorem bf20_18 : am_fetch (am_mth 20) 18 = some (.iload_n 2, 1, [], [1, 5]) := by decide +kernel
theorem bf20_19 : am_fetch (am_mth 20) 19 = some (.laload, 1, [], [1, 5]) := by decide +kernel
theorem bf20_20 : am_fetch (am_mth 20) 20 = some (.lload 4, 2, [], [1, 5]) := by decide +kernel
theorem bf20_22 : am_fetch (am_mth 20) 22 = some (.ldc2_w 36, 3, [0, 18446744073709551615, 437], [1, 5]) := by decide +kernel
theorem bf20_25 : am_fetch (am_mth 20) 25 = some (.lxor, 1, [], [1, 5]) := by decide +kernel
theorem bf20_26 : am_fetch (am_mth 20) 26 = some (.land, 1, [], [1, 5]) := by decide +kernel
theorem bf20_27 : am_fetch (am_mth 20) 27 = some (.goto 12, 3, [], [1, 5]) := by decide +kernel
theorem bf20_30 : am_fetch (am_mth 20) 30 = some (.aload_n 0, 1, [], [1, 5]) := by decide +kernel
theorem bf20_31 : am_fetch (am_mth 20) 31 = some (.getfield 9, 3, [0, 7, 0, 273], [1, 5]) := by decide +kernel
theorem bf20_34 : am_fetch (am_mth 20) 34 = some (.iload_n 2, 1, [], [1, 5]) := by decide +kernel
theorem bf20_35 : am_fetch (am_mth 20) 35 = some (.laload, 1, [], [1, 5]) := by decide +kernel
theorem bf20_36 : am_fetch (am_mth 20) 36 = some (.lload 4, 2, [], [1, 5]) := by decide +kernel
theorem bf20_38 : am_fetch (am_mth 20) 38 = some (.lor, 1, [], [1, 5]) := by decide +kernel
theorem bf20_39 : am_fetch (am_mth 20) 39 = some (.lastore, 1, [], [1, 5]) := by decide +kernel
theorem bf20_40 : am_fetch (am_mth 20) 40 = some (.aload_n 0, 1, [], [1, 5]) := by decide +kernel
theorem bf20_41 : am_fetch (am_mth 20) 41 = some (.getfield 21, 3, [0, 7, 1, 274], [1, 5]) := by decide +kernel
theorem bf20_44 : am_fetch (am_mth 20) 44 = some (.iload_n 2, 1, [], [1, 5]) := by decide +kernel
theorem bf20_45 : am_fetch (am_mth 20) 45 = some (.iload_n 3, 1, [], [1, 5]) := by decide +kernel
theorem bf20_46 : am_fetch (am_mth 20) 46 = some (.ifCond .eq 15, 3, [], [1, 3, 5]) := by decide +kernel
theorem bf20_49 : am_fetch (am_mth 20) 49 = some (.aload_n 0, 1, [], [1, 3, 5]) := by decide +kernel
theorem bf20_50 : am_fetch (am_mth 20) 50 = some (.getfield 21, 3, [0, 7, 1, 274], [0, 1, 3, 5]) := by decide +kernel
theorem bf20_53 : am_fetch (am_mth 20) 53 = some (.iload_n 2, 1, [], [0, 1, 3, 5]) := by decide +kernel
theorem bf20_54 : am_fetch (am_mth 20) 54 = some (.laload, 1, [], [0, 1, 2, 3, 5]) := by decide +kernel
theorem bf20_55 : am_fetch (am_mth 20) 55 = some (.lload 4, 2, [], [0, 1, 2, 3, 5]) := by decide +kernel
theorem bf20_57 : am_fetch (am_mth 20) 57 = some (.lor, 1, [], [0, 1, 2, 3, 4, 5]) := by decide +kernel
theorem bf20_58 : am_fetch (am_mth 20) 58 = some (.goto 16, 3, [], [0, 1, 2, 3, 4, 5]) := by decide +kernel
theorem bf20_61 : am_fetch (am_mth 20) 61 = some (.aload_n 0, 1, [], [1, 3, 5]) := by decide +kernel
theorem bf20_62 : am_fetch (am_mth 20) 62 = some (.getfield 21, 3, [0, 7, 1, 274], [0, 1, 3, 5]) := by decide +kernel
theorem bf20_65 : am_fetch (am_mth 20) 65 = some (.iload_n 2, 1, [], [0, 1, 3, 5]) := by decide +kernel
theorem bf20_66 : am_fetch (am_mth 20) 66 = some (.laload, 1, [], [0, 1, 2, 3, 5]) := by decide +kernel
theorem bf20_67 : am_fetch (am_mth 20) 67 = some (.lload 4, 2, [], [0, 1, 2, 3, 5]) := by decide +kernel
theorem bf20_69 : am_fetch (am_mth 20) 69 = some (.ldc2_w 36, 3, [0, 18446744073709551615, 437], [0, 1, 2, 3, 4, 5]) := by decide +kernel
theorem bf20_72 : am_fetch (am_mth 20) 72 = some (.lxor, 1, [], [0, 1, 2, 3, 4, 5]) := by decide +kernel
theorem bf20_73 : am_fetch (am_mth 20) 73 = some (.land, 1, [], [0, 1, 2, 3, 4, 5]) := by decide +kernel
theorem bf20_74 : am_fetch (am_mth 20) 74 = some (.lastore, 1, [], [0, 1, 2, 3, 4, 5]) := by decide +kernel
theorem bf20_75 : am_fetch (am_mth 20) 75 = some (.return_, 1, [], [0, 1, 2, 3, 4, 5]) := by decide +kernel
theorem bk20_0 {w : am_Wd} {l0 : Nat} {l1 : Int32} {l2 : Int32} {l3 : Int32} : am_run 20 0 [some (.ref l0), some (.int l1), some (.int l2), some (.int l3), none, none] [] w = (am_gf w l0 7 0).bind fun v => am_run 20 9 [some (.ref l0), none, some (.int l2), some (.int l3), some (.long (bj_lshl (lN 1) l1)), none] (v :: []) w := by
  refine (bu (ls'' := [some (.ref l0), some (.int l1), some (.int l2), some (.int l3), none, none]) (st' := [.long (lN 1)]) bf20_0 bf20_1 rfl rfl).trans ?_
  refine (bu (ls'' := [some (.ref l0), none, some (.int l2), some (.int l3), none, none]) (st' := [.int l1, .long (lN 1)]) bf20_1 bf20_2 rfl rfl).trans ?_
  refine (bu (ls'' := [some (.ref l0), none, some (.int l2), some (.int l3), none, none]) (st' := [.long (bj_lshl (lN 1) l1)]) bf20_2 bf20_3 rfl rfl).trans ?_
  refine (bu (ls'' := [some (.ref l0), none, some (.int l2), some (.int l3), some (.long (bj_lshl (lN 1) l1)), none]) (st' := []) bf20_3 bf20_5 rfl rfl).trans ?_
  refine (bu (ls'' := [some (.ref l0), none, some (.int l2), some (.int l3), some (.long (bj_lshl (lN 1) l1)), none]) (st' := [.ref l0]) bf20_5 bf20_6 rfl rfl).trans ?_
  exact bh bf20_6 bf20_9 rfl (fun _ _ => am_ge_rf w) rfl
theorem bk20_9 {w : am_Wd} {l0 : Nat} {l2 : Int32} {l3 : Int32} {l4 : Int64} {s0 : Nat} : am_run 20 9 [some (.ref l0), none, some (.int l2), some (.int l3), some (.long l4), none] [.ref s0] w = if l3 = nI 0 then am_run 20 30 [some (.ref l0), none, some (.int l2), some (.int l3), some (.long l4), none] [.int l2, .ref s0] w else am_run 20 14 [some (.ref l0), none, some (.int l2), some (.int l3), some (.long l4), none] [.int l2, .ref s0] w := by
  refine (bu (ls'' := [some (.ref l0), none, some (.int l2), some (.int l3), some (.long l4), none]) (st' := [.int l2, .ref s0]) bf20_9 bf20_10 rfl rfl).trans ?_
  refine (bu (ls'' := [some (.ref l0), none, some (.int l2), some (.int l3), some (.long l4), none]) (st' := [.int l3, .int l2, .ref s0]) bf20_10 bf20_11 rfl rfl).trans ?_
  exact bifc bf20_11 rfl bf20_30 bf20_14 rfl rfl rfl
theorem bk20_30 {w : am_Wd} {l0 : Nat} {l2 : Int32} {l3 : Int32} {l4 : Int64} {s0 : Int32} {s1 : Nat} : am_run 20 30 [some (.ref l0), none, some (.int l2), some (.int l3), some (.long l4), none] [.int s0, .ref s1] w = (am_gf w l0 7 0).bind fun v => am_run 20 34 [some (.ref l0), none, some (.int l2), some (.int l3), some (.long l4), none] (v :: [.int s0, .ref s1]) w := by
  refine (bu (ls'' := [some (.ref l0), none, some (.int l2), some (.int l3), some (.long l4), none]) (st' := [.ref l0, .int s0, .ref s1]) bf20_30 bf20_31 rfl rfl).trans ?_
  exact bh bf20_31 bf20_34 rfl (fun _ _ => am_ge_rf w) rfl
theorem bk20_14 {w : am_Wd} {l0 : Nat} {l2 : Int32} {l3 : Int32} {l4 : Int64} {s0 : Int32} {s1 : Nat} : am_run 20 14 [some (.ref l0), none, some (.int l2), some (.int l3), some (.long l4), none] [.int s0, .ref s1] w = (am_gf w l0 7 0).bind fun v => am_run 20 18 [some (.ref l0), none, some (.int l2), some (.int l3), some (.long l4), none] (v :: [.int s0, .ref s1]) w := by
  refine (bu (ls'' := [some (.ref l0), none, some (.int l2), some (.int l3), some (.long l4), none]) (st' := [.ref l0, .int s0, .ref s1]) bf20_14 bf20_15 rfl rfl).trans ?_
  exact bh bf20_15 bf20_18 rfl (fun _ _ => am_ge_rf w) rfl
theorem bk20_34 {w : am_Wd} {l0 : Nat} {l2 : Int32} {l3 : Int32} {l4 : Int64} {s0 : Nat} {s1 : Int32} {s2 : Nat} : am_run 20 34 [some (.ref l0), none, some (.int l2), some (.int l3), some (.long l4), none] [.ref s0, .int s1, .ref s2] w = (am_rl w s0 l2).bind fun v => am_run 20 36 [some (.ref l0), none, some (.int l2), some (.int l3), some (.long l4), none] (.long v :: [.int s1, .ref s2]) w := by
  refine (bu (ls'' := [some (.ref l0), none, some (.int l2), some (.int l3), some (.long l4), none]) (st' := [.int l2, .ref s0, .int s1, .ref s2]) bf20_34 bf20_35 rfl rfl).trans ?_
  exact bh bf20_35 bf20_36 rfl (fun _ _ => am_ge_rf w) rfl
theorem bk20_18 {w : am_Wd} {l0 : Nat} {l2 : Int32} {l3 : Int32} {l4 : Int64} {s0 : Nat} {s1 : Int32} {s2 : Nat} : am_run 20 18 [some (.ref l0), none, some (.int l2), some (.int l3), some (.long l4), none] [.ref s0, .int s1, .ref s2] w = (am_rl w s0 l2).bind fun v => am_run 20 20 [some (.ref l0), none, some (.int l2), some (.int l3), some (.long l4), none] (.long v :: [.int s1, .ref s2]) w := by
  refine (bu (ls'' := [some (.ref l0), none, some (.int l2), some (.int l3), some (.long l4), none]) (st' := [.int l2, .ref s0, .int s1, .ref s2]) bf20_18 bf20_19 rfl rfl).trans ?_
  exact bh bf20_19 bf20_20 rfl (fun _ _ => am_ge_rf w) rfl
theorem bk20_36 {w : am_Wd} {l0 : Nat} {l2 : Int32} {l3 : Int32} {l4 : Int64} {s0 : Int64} {s1 : Int32} {s2 : Nat} : am_run 20 36 [some (.ref l0), none, some (.int l2), some (.int l3), some (.long l4), none] [.long s0, .int s1, .ref s2] w = am_run 20 39 [some (.ref l0), none, some (.int l2), some (.int l3), some (.long l4), none] [.long (s0 ||| l4), .int s1, .ref s2] w := by
  refine (bu (ls'' := [some (.ref l0), none, some (.int l2), some (.int l3), some (.long l4), none]) (st' := [.long l4, .long s0, .int s1, .ref s2]) bf20_36 bf20_38 rfl rfl).trans ?_
  refine (bu (ls'' := [some (.ref l0), none, some (.int l2), some (.int l3), some (.long l4), none]) (st' := [.long (s0 ||| l4), .int s1, .ref s2]) bf20_38 bf20_39 rfl rfl).trans ?_
  rfl
theorem bk20_20 {w : am_Wd} {l0 : Nat} {l2 : Int32} {l3 : Int32} {l4 : Int64} {s0 : Int64} {s1 : Int32} {s2 : Nat} : am_run 20 20 [some (.ref l0), none, some (.int l2), some (.int l3), some (.long l4), none] [.long s0, .int s1, .ref s2] w = am_run 20 39 [some (.ref l0), none, some (.int l2), some (.int l3), some (.long l4), none] [.long (s0 &&& (l4 ^^^ (lN 18446744073709551615))), .int s1, .ref s2] w := by
  refine (bu (ls'' := [some (.ref l0), none, some (.int l2), some (.int l3), some (.long l4), none]) (st' := [.long l4, .long s0, .int s1, .ref s2]) bf20_20 bf20_22 rfl rfl).trans ?_
  refine (bu (ls'' := [some (.ref l0), none, some (.int l2), some (.int l3), some (.long l4), none]) (st' := [.long (lN 18446744073709551615), .long l4, .long s0, .int s1, .ref s2]) bf20_22 bf20_25 rfl rfl).trans ?_
  refine (bu (ls'' := [some (.ref l0), none, some (.int l2), some (.int l3), some (.long l4), none]) (st' := [.long (l4 ^^^ (lN 18446744073709551615)), .long s0, .int s1, .ref s2]) bf20_25 bf20_26 rfl rfl).trans ?_
  refine (bu (ls'' := [some (.ref l0), none, some (.int l2), some (.int l3), some (.long l4), none]) (st' := [.long (s0 &&& (l4 ^^^ (lN 18446744073709551615))), .int s1, .ref s2]) bf20_26 bf20_27 rfl rfl).trans ?_
  refine (bu (ls'' := [some (.ref l0), none, some (.int l2), some (.int l3), some (.long l4), none]) (st' := [.long (s0 &&& (l4 ^^^ (lN 18446744073709551615))), .int s1, .ref s2]) bf20_27 bf20_39 rfl rfl).trans ?_
  rfl
theorem bk20_39 {w : am_Wd} {l0 : Nat} {l2 : Int32} {l3 : Int32} {l4 : Int64} {s0 : Int64} {s1 : Int32} {s2 : Nat} : am_run 20 39 [some (.ref l0), none, some (.int l2), some (.int l3), some (.long l4), none] [.long s0, .int s1, .ref s2] w = (am_wl w s2 s1 s0).bind fun w' => am_run 20 40 [some (.ref l0), none, some (.int l2), some (.int l3), some (.long l4), none] [] w' := by
  exact bh bf20_39 bf20_40 rfl (bge_wl) rfl
theorem bk20_40 {w : am_Wd} {l0 : Nat} {l2 : Int32} {l3 : Int32} {l4 : Int64} : am_run 20 40 [some (.ref l0), none, some (.int l2), some (.int l3), some (.long l4), none] [] w = (am_gf w l0 7 1).bind fun v => am_run 20 44 [some (.ref l0), none, some (.int l2), some (.int l3), some (.long l4), none] (v :: []) w := by
  refine (bu (ls'' := [some (.ref l0), none, some (.int l2), some (.int l3), some (.long l4), none]) (st' := [.ref l0]) bf20_40 bf20_41 rfl rfl).trans ?_
  exact bh bf20_41 bf20_44 rfl (fun _ _ => am_ge_rf w) rfl
theorem bk20_44 {w : am_Wd} {l0 : Nat} {l2 : Int32} {l3 : Int32} {l4 : Int64} {s0 : Nat} : am_run 20 44 [some (.ref l0), none, some (.int l2), some (.int l3), some (.long l4), none] [.ref s0] w = if l3 = nI 0 then am_run 20 61 [some (.ref l0), none, some (.int l2), none, some (.long l4), none] [.int l2, .ref s0] w else am_run 20 49 [some (.ref l0), none, some (.int l2), none, some (.long l4), none] [.int l2, .ref s0] w := by
  refine (bu (ls'' := [some (.ref l0), none, some (.int l2), some (.int l3), some (.long l4), none]) (st' := [.int l2, .ref s0]) bf20_44 bf20_45 rfl rfl).trans ?_
  refine (bu (ls'' := [some (.ref l0), none, some (.int l2), none, some (.long l4), none]) (st' := [.int l3, .int l2, .ref s0]) bf20_45 bf20_46 rfl rfl).trans ?_
  exact bifc bf20_46 rfl bf20_61 bf20_49 rfl rfl rfl
theorem bk20_61 {w : am_Wd} {l0 : Nat} {l2 : Int32} {l4 : Int64} {s0 : Int32} {s1 : Nat} : am_run 20 61 [some (.ref l0), none, some (.int l2), none, some (.long l4), none] [.int s0, .ref s1] w = (am_gf w l0 7 1).bind fun v => am_run 20 65 [none, none, some (.int l2), none, some (.long l4), none] (v :: [.int s0, .ref s1]) w := by
  refine (bu (ls'' := [none, none, some (.int l2), none, some (.long l4), none]) (st' := [.ref l0, .int s0, .ref s1]) bf20_61 bf20_62 rfl rfl).trans ?_
  exact bh bf20_62 bf20_65 rfl (fun _ _ => am_ge_rf w) rfl
theorem bk20_49 {w : am_Wd} {l0 : Nat} {l2 : Int32} {l4 : Int64} {s0 : Int32} {s1 : Nat} : am_run 20 49 [some (.ref l0), none, some (.int l2), none, some (.long l4), none] [.int s0, .ref s1] w = (am_gf w l0 7 1).bind fun v => am_run 20 53 [none, none, some (.int l2), none, some (.long l4), none] (v :: [.int s0, .ref s1]) w := by
  refine (bu (ls'' := [none, none, some (.int l2), none, some (.long l4), none]) (st' := [.ref l0, .int s0, .ref s1]) bf20_49 bf20_50 rfl rfl).trans ?_
  exact bh bf20_50 bf20_53 rfl (fun _ _ => am_ge_rf w) rfl
theorem bk20_65 {w : am_Wd} {l2 : Int32} {l4 : Int64} {s0 : Nat} {s1 : Int32} {s2 : Nat} : am_run 20 65 [none, none, some (.int l2), none, some (.long l4), none] [.ref s0, .int s1, .ref s2] w = (am_rl w s0 l2).bind fun v => am_run 20 67 [none, none, none, none, some (.long l4), none] (.long v :: [.int s1, .ref s2]) w := by
  refine (bu (ls'' := [none, none, none, none, some (.long l4), none]) (st' := [.int l2, .ref s0, .int s1, .ref s2]) bf20_65 bf20_66 rfl rfl).trans ?_
  exact bh bf20_66 bf20_67 rfl (fun _ _ => am_ge_rf w) rfl
theorem bk20_53 {w : am_Wd} {l2 : Int32} {l4 : Int64} {s0 : Nat} {s1 : Int32} {s2 : Nat} : am_run 20 53 [none, none, some (.int l2), none, some (.long l4), none] [.ref s0, .int s1, .ref s2] w = (am_rl w s0 l2).bind fun v => am_run 20 55 [none, none, none, none, some (.long l4), none] (.long v :: [.int s1, .ref s2]) w := by
  refine (bu (ls'' := [none, none, none, none, some (.long l4), none]) (st' := [.int l2, .ref s0, .int s1, .ref s2]) bf20_53 bf20_54 rfl rfl).trans ?_
  exact bh bf20_54 bf20_55 rfl (fun _ _ => am_ge_rf w) rfl
theorem bk20_67 {w : am_Wd} {l4 : Int64} {s0 : Int64} {s1 : Int32} {s2 : Nat} : am_run 20 67 [none, none, none, none, some (.long l4), none] [.long s0, .int s1, .ref s2] w = am_run 20 74 [none, none, none, none, none, none] [.long (s0 &&& (l4 ^^^ (lN 18446744073709551615))), .int s1, .ref s2] w := by
  refine (bu (ls'' := [none, none, none, none, none, none]) (st' := [.long l4, .long s0, .int s1, .ref s2]) bf20_67 bf20_69 rfl rfl).trans ?_
  refine (bu (ls'' := [none, none, none, none, none, none]) (st' := [.long (lN 18446744073709551615), .long l4, .long s0, .int s1, .ref s2]) bf20_69 bf20_72 rfl rfl).trans ?_
  refine (bu (ls'' := [none, none, none, none, none, none]) (st' := [.long (l4 ^^^ (lN 18446744073709551615)), .long s0, .int s1, .ref s2]) bf20_72 bf20_73 rfl rfl).trans ?_
  refine (bu (ls'' := [none, none, none, none, none, none]) (st' := [.long (s0 &&& (l4 ^^^ (lN 18446744073709551615))), .int s1, .ref s2]) bf20_73 bf20_74 rfl rfl).trans ?_
  rfl
theorem bk20_55 {w : am_Wd} {l4 : Int64} {s0 : Int64} {s1 : Int32} {s2 : Nat} : am_run 20 55 [none, none, none, none, some (.long l4), none] [.long s0, .int s1, .ref s2] w = am_run 20 74 [none, none, none, none, none, none] [.long (s0 ||| l4), .int s1, .ref s2] w := by
  refine (bu (ls'' := [none, none, none, none, none, none]) (st' := [.long l4, .long s0, .int s1, .ref s2]) bf20_55 bf20_57 rfl rfl).trans ?_
  refine (bu (ls'' := [none, none, none, none, none, none]) (st' := [.long (s0 ||| l4), .int s1, .ref s2]) bf20_57 bf20_58 rfl rfl).trans ?_
  refine (bu (ls'' := [none, none, none, none, none, none]) (st' := [.long (s0 ||| l4), .int s1, .ref s2]) bf20_58 bf20_74 rfl rfl).trans ?_
  rfl
theorem bk20_74 {w : am_Wd} {s0 : Int64} {s1 : Int32} {s2 : Nat} : am_run 20 74 [none, none, none, none, none, none] [.long s0, .int s1, .ref s2] w = (am_wl w s2 s1 s0).bind fun w' => am_run 20 75 [none, none, none, none, none, none] [] w' := by
  exact bh bf20_74 bf20_75 rfl (bge_wl) rfl
theorem bk20_75 {w : am_Wd}  : am_run 20 75 [none, none, none, none, none, none] [] w = some (.inl none, w) := by
  exact am_e2 bf20_75 rfl (am_ge_rf w)
theorem bf21_0 : am_fetch (am_mth 21) 0 = some (.ldc2_w 38, 3, [0, 68719476735, 436], []) := by decide +kernel
theorem bf21_3 : am_fetch (am_mth 21) 3 = some (.iload_n 2, 1, [], []) := by decide +kernel
theorem bf21_4 : am_fetch (am_mth 21) 4 = some (.ifCond .eq 12, 3, [], [2]) := by decide +kernel
theorem bf21_7 : am_fetch (am_mth 21) 7 = some (.aload_n 0, 1, [], [2]) := by decide +kernel
theorem bf21_8 : am_fetch (am_mth 21) 8 = some (.getfield 9, 3, [0, 7, 0, 273], [0, 2]) := by decide +kernel
theorem bf21_11 : am_fetch (am_mth 21) 11 = some (.iload_n 1, 1, [], [0, 2]) := by decide +kernel
theorem bf21_12 : am_fetch (am_mth 21) 12 = some (.laload, 1, [], [0, 1, 2]) := by decide +kernel
theorem bf21_13 : am_fetch (am_mth 21) 13 = some (.goto 9, 3, [], [0, 1, 2]) := by decide +kernel
theorem bf21_16 : am_fetch (am_mth 21) 16 = some (.aload_n 0, 1, [], [2]) := by decide +kernel
theorem bf21_17 : am_fetch (am_mth 21) 17 = some (.getfield 21, 3, [0, 7, 1, 274], [0, 2]) := by decide +kernel
theorem bf21_20 : am_fetch (am_mth 21) 20 = some (.iload_n 1, 1, [], [0, 2]) := by decide +kernel
theorem bf21_21 : am_fetch (am_mth 21) 21 = some (.laload, 1, [], [0, 1, 2]) := by decide +kernel
theorem bf21_22 : am_fetch (am_mth 21) 22 = some (.ldc2_w 36, 3, [0, 18446744073709551615, 437], [0, 1, 2]) := by decide +kernel
theorem bf21_25 : am_fetch (am_mth 21) 25 = some (.lxor, 1, [], [0, 1, 2]) := by decide +kernel
theorem bf21_26 : am_fetch (am_mth 21) 26 = some (.land, 1, [], [0, 1, 2]) := by decide +kernel
theorem bf21_27 : am_fetch (am_mth 21) 27 = some (.lreturn, 1, [], [0, 1, 2]) := by decide +kernel
theorem bk21_0 {w : am_Wd} {l0 : Nat} {l1 : Int32} {l2 : Int32} : am_run 21 0 [some (.ref l0), some (.int l1), some (.int l2)] [] w = if l2 = nI 0 then am_run 21 16 [some (.ref l0), some (.int l1), none] [.long (lN 68719476735)] w else am_run 21 7 [some (.ref l0), some (.int l1), none] [.long (lN 68719476735)] w := by
  refine (bu (ls'' := [some (.ref l0), some (.int l1), some (.int l2)]) (st' := [.long (lN 68719476735)]) bf21_0 bf21_3 rfl rfl).trans ?_
  refine (bu (ls'' := [some (.ref l0), some (.int l1), none]) (st' := [.int l2, .long (lN 68719476735)]) bf21_3 bf21_4 rfl rfl).trans ?_
  exact bifc bf21_4 rfl bf21_16 bf21_7 rfl rfl rfl
theorem bk21_16 {w : am_Wd} {l0 : Nat} {l1 : Int32} {s0 : Int64} : am_run 21 16 [some (.ref l0), some (.int l1), none] [.long s0] w = (am_gf w l0 7 1).bind fun v => am_run 21 20 [none, some (.int l1), none] (v :: [.long s0]) w := by
  refine (bu (ls'' := [none, some (.int l1), none]) (st' := [.ref l0, .long s0]) bf21_16 bf21_17 rfl rfl).trans ?_
  exact bh bf21_17 bf21_20 rfl (fun _ _ => am_ge_rf w) rfl
theorem bk21_7 {w : am_Wd} {l0 : Nat} {l1 : Int32} {s0 : Int64} : am_run 21 7 [some (.ref l0), some (.int l1), none] [.long s0] w = (am_gf w l0 7 0).bind fun v => am_run 21 11 [none, some (.int l1), none] (v :: [.long s0]) w := by
  refine (bu (ls'' := [none, some (.int l1), none]) (st' := [.ref l0, .long s0]) bf21_7 bf21_8 rfl rfl).trans ?_
  exact bh bf21_8 bf21_11 rfl (fun _ _ => am_ge_rf w) rfl
theorem bk21_20 {w : am_Wd} {l1 : Int32} {s0 : Nat} {s1 : Int64} : am_run 21 20 [none, some (.int l1), none] [.ref s0, .long s1] w = (am_rl w s0 l1).bind fun v => am_run 21 22 [none, none, none] (.long v :: [.long s1]) w := by
  refine (bu (ls'' := [none, none, none]) (st' := [.int l1, .ref s0, .long s1]) bf21_20 bf21_21 rfl rfl).trans ?_
  exact bh bf21_21 bf21_22 rfl (fun _ _ => am_ge_rf w) rfl
theorem bk21_11 {w : am_Wd} {l1 : Int32} {s0 : Nat} {s1 : Int64} : am_run 21 11 [none, some (.int l1), none] [.ref s0, .long s1] w = (am_rl w s0 l1).bind fun v => am_run 21 13 [none, none, none] (.long v :: [.long s1]) w := by
  refine (bu (ls'' := [none, none, none]) (st' := [.int l1, .ref s0, .long s1]) bf21_11 bf21_12 rfl rfl).trans ?_
  exact bh bf21_12 bf21_13 rfl (fun _ _ => am_ge_rf w) rfl
theorem bk21_22 {w : am_Wd} {s0 : Int64} {s1 : Int64} : am_run 21 22 [none, none, none] [.long s0, .long s1] w = some (.inl (some (.long (s1 &&& (s0 ^^^ (lN 18446744073709551615))))), w) := by
  refine (bu (ls'' := [none, none, none]) (st' := [.long (lN 18446744073709551615), .long s0, .long s1]) bf21_22 bf21_25 rfl rfl).trans ?_
  refine (bu (ls'' := [none, none, none]) (st' := [.long (s0 ^^^ (lN 18446744073709551615)), .long s1]) bf21_25 bf21_26 rfl rfl).trans ?_
  refine (bu (ls'' := [none, none, none]) (st' := [.long (s1 &&& (s0 ^^^ (lN 18446744073709551615)))]) bf21_26 bf21_27 rfl rfl).trans ?_
  exact am_e2 bf21_27 rfl (am_ge_rf w)
theorem bk21_13 {w : am_Wd} {s0 : Int64} {s1 : Int64} : am_run 21 13 [none, none, none] [.long s0, .long s1] w = am_run 21 22 [none, none, none] [.long s0, .long s1] w := by
  refine (bu (ls'' := [none, none, none]) (st' := [.long s0, .long s1]) bf21_13 bf21_22 rfl rfl).trans ?_
  rfl
theorem bf22_0 : am_fetch (am_mth 22) 0 = some (.ldc2_w 38, 3, [0, 68719476735, 436], []) := by decide +kernel
theorem bf22_3 : am_fetch (am_mth 22) 3 = some (.aload_n 0, 1, [], []) := by decide +kernel
theorem bf22_4 : am_fetch (am_mth 22) 4 = some (.getfield 9, 3, [0, 7, 0, 273], []) := by decide +kernel
theorem bf22_7 : am_fetch (am_mth 22) 7 = some (.iload_n 1, 1, [], []) := by decide +kernel
theorem bf22_8 : am_fetch (am_mth 22) 8 = some (.laload, 1, [], []) := by decide +kernel
theorem bf22_9 : am_fetch (am_mth 22) 9 = some (.ldc2_w 36, 3, [0, 18446744073709551615, 437], []) := by decide +kernel
theorem bf22_12 : am_fetch (am_mth 22) 12 = some (.lxor, 1, [], []) := by decide +kernel
theorem bf22_13 : am_fetch (am_mth 22) 13 = some (.land, 1, [], []) := by decide +kernel
theorem bf22_14 : am_fetch (am_mth 22) 14 = some (.aload_n 0, 1, [], []) := by decide +kernel
theorem bf22_15 : am_fetch (am_mth 22) 15 = some (.getfield 21, 3, [0, 7, 1, 274], [0]) := by decide +kernel
theorem bf22_18 : am_fetch (am_mth 22) 18 = some (.iload_n 1, 1, [], [0]) := by decide +kernel
theorem bf22_19 : am_fetch (am_mth 22) 19 = some (.laload, 1, [], [0, 1]) := by decide +kernel
theorem bf22_20 : am_fetch (am_mth 22) 20 = some (.ldc2_w 36, 3, [0, 18446744073709551615, 437], [0, 1]) := by decide +kernel
theorem bf22_23 : am_fetch (am_mth 22) 23 = some (.lxor, 1, [], [0, 1]) := by decide +kernel
theorem bf22_24 : am_fetch (am_mth 22) 24 = some (.land, 1, [], [0, 1]) := by decide +kernel
theorem bf22_25 : am_fetch (am_mth 22) 25 = some (.lreturn, 1, [], [0, 1]) := by decide +kernel
theorem bk22_0 {w : am_Wd} {l0 : Nat} {l1 : Int32} : am_run 22 0 [some (.ref l0), some (.int l1)] [] w = (am_gf w l0 7 0).bind fun v => am_run 22 7 [some (.ref l0), some (.int l1)] (v :: [.long (lN 68719476735)]) w := by
  refine (bu (ls'' := [some (.ref l0), some (.int l1)]) (st' := [.long (lN 68719476735)]) bf22_0 bf22_3 rfl rfl).trans ?_
  refine (bu (ls'' := [some (.ref l0), some (.int l1)]) (st' := [.ref l0, .long (lN 68719476735)]) bf22_3 bf22_4 rfl rfl).trans ?_
  exact bh bf22_4 bf22_7 rfl (fun _ _ => am_ge_rf w) rfl
theorem bk22_7 {w : am_Wd} {l0 : Nat} {l1 : Int32} {s0 : Nat} {s1 : Int64} : am_run 22 7 [some (.ref l0), some (.int l1)] [.ref s0, .long s1] w = (am_rl w s0 l1).bind fun v => am_run 22 9 [some (.ref l0), some (.int l1)] (.long v :: [.long s1]) w := by
  refine (bu (ls'' := [some (.ref l0), some (.int l1)]) (st' := [.int l1, .ref s0, .long s1]) bf22_7 bf22_8 rfl rfl).trans ?_
  exact bh bf22_8 bf22_9 rfl (fun _ _ => am_ge_rf w) rfl
theorem bk22_9 {w : am_Wd} {l0 : Nat} {l1 : Int32} {s0 : Int64} {s1 : Int64} : am_run 22 9 [some (.ref l0), some (.int l1)] [.long s0, .long s1] w = (am_gf w l0 7 1).bind fun v => am_run 22 18 [none, some (.int l1)] (v :: [.long (s1 &&& (s0 ^^^ (lN 18446744073709551615)))]) w := by
  refine (bu (ls'' := [some (.ref l0), some (.int l1)]) (st' := [.long (lN 18446744073709551615), .long s0, .long s1]) bf22_9 bf22_12 rfl rfl).trans ?_
  refine (bu (ls'' := [some (.ref l0), some (.int l1)]) (st' := [.long (s0 ^^^ (lN 18446744073709551615)), .long s1]) bf22_12 bf22_13 rfl rfl).trans ?_
  refine (bu (ls'' := [some (.ref l0), some (.int l1)]) (st' := [.long (s1 &&& (s0 ^^^ (lN 18446744073709551615)))]) bf22_13 bf22_14 rfl rfl).trans ?_
  refine (bu (ls'' := [none, some (.int l1)]) (st' := [.ref l0, .long (s1 &&& (s0 ^^^ (lN 18446744073709551615)))]) bf22_14 bf22_15 rfl rfl).trans ?_
  exact bh bf22_15 bf22_18 rfl (fun _ _ => am_ge_rf w) rfl
theorem bk22_18 {w : am_Wd} {l1 : Int32} {s0 : Nat} {s1 : Int64} : am_run 22 18 [none, some (.int l1)] [.ref s0, .long s1] w = (am_rl w s0 l1).bind fun v => am_run 22 20 [none, none] (.long v :: [.long s1]) w := by
  refine (bu (ls'' := [none, none]) (st' := [.int l1, .ref s0, .long s1]) bf22_18 bf22_19 rfl rfl).trans ?_
  exact bh bf22_19 bf22_20 rfl (fun _ _ => am_ge_rf w) rfl
theorem bk22_20 {w : am_Wd} {s0 : Int64} {s1 : Int64} : am_run 22 20 [none, none] [.long s0, .long s1] w = some (.inl (some (.long (s1 &&& (s0 ^^^ (lN 18446744073709551615))))), w) := by
  refine (bu (ls'' := [none, none]) (st' := [.long (lN 18446744073709551615), .long s0, .long s1]) bf22_20 bf22_23 rfl rfl).trans ?_
  refine (bu (ls'' := [none, none]) (st' := [.long (s0 ^^^ (lN 18446744073709551615)), .long s1]) bf22_23 bf22_24 rfl rfl).trans ?_
  refine (bu (ls'' := [none, none]) (st' := [.long (s1 &&& (s0 ^^^ (lN 18446744073709551615)))]) bf22_24 bf22_25 rfl rfl).trans ?_
  exact am_e2 bf22_25 rfl (am_ge_rf w)
theorem bf23_0 : am_fetch (am_mth 23) 0 = some (.lload_n 1, 1, [], [2, 3, 4, 5, 6, 7, 8, 9, 10]) := by decide +kernel
theorem bf23_1 : am_fetch (am_mth 23) 1 = some (.aload_n 0, 1, [], [2, 3, 4, 5, 6, 7, 8, 9, 10]) := by decide +kernel
theorem bf23_2 : am_fetch (am_mth 23) 2 = some (.getfield 9, 3, [0, 7, 0, 273], [2, 3, 4, 5, 6, 7, 8, 9, 10]) := by decide +kernel
theorem bf23_5 : am_fetch (am_mth 23) 5 = some (.iconst 0, 1, [], [2, 3, 4, 5, 6, 7, 8, 9, 10]) := by decide +kernel
theorem bf23_6 : am_fetch (am_mth 23) 6 = some (.laload, 1, [], [2, 3, 4, 5, 6, 7, 8, 9, 10]) := by decide +kernel
theorem bf23_7 : am_fetch (am_mth 23) 7 = some (.land, 1, [], [2, 3, 4, 5, 6, 7, 8, 9, 10]) := by decide +kernel
theorem bf23_8 : am_fetch (am_mth 23) 8 = some (.bipush 6, 2, [], [2, 3, 4, 5, 6, 7, 8, 9, 10]) := by decide +kernel
theorem bf23_10 : am_fetch (am_mth 23) 10 = some (.lushr, 1, [], [2, 3, 4, 5, 6, 7, 8, 9, 10]) := by decide +kernel
theorem bf23_11 : am_fetch (am_mth 23) 11 = some (.lstore_n 3, 1, [], [2, 3, 4, 5, 6, 7, 8, 9, 10]) := by decide +kernel
theorem bf23_12 : am_fetch (am_mth 23) 12 = some (.lload_n 1, 1, [], [2, 4, 5, 6, 7, 8, 9, 10]) := by decide +kernel
theorem bf23_13 : am_fetch (am_mth 23) 13 = some (.aload_n 0, 1, [], [2, 4, 5, 6, 7, 8, 9, 10]) := by decide +kernel
theorem bf23_14 : am_fetch (am_mth 23) 14 = some (.getfield 9, 3, [0, 7, 0, 273], [2, 4, 5, 6, 7, 8, 9, 10]) := by decide +kernel
theorem bf23_17 : am_fetch (am_mth 23) 17 = some (.iconst 1, 1, [], [2, 4, 5, 6, 7, 8, 9, 10]) := by decide +kernel
theorem bf23_18 : am_fetch (am_mth 23) 18 = some (.laload, 1, [], [2, 4, 5, 6, 7, 8, 9, 10]) := by decide +kernel
theorem bf23_19 : am_fetch (am_mth 23) 19 = some (.land, 1, [], [2, 4, 5, 6, 7, 8, 9, 10]) := by decide +kernel
theorem bf23_20 : am_fetch (am_mth 23) 20 = some (.iconst 1, 1, [], [2, 4, 5, 6, 7, 8, 9, 10]) := by decide +kernel
theorem bf23_21 : am_fetch (am_mth 23) 21 = some (.lshl, 1, [], [2, 4, 5, 6, 7, 8, 9, 10]) := by decide +kernel
theorem bf23_22 : am_fetch (am_mth 23) 22 = some (.lstore 5, 2, [], [2, 4, 5, 6, 7, 8, 9, 10]) := by decide +kernel
theorem bf23_24 : am_fetch (am_mth 23) 24 = some (.lload_n 1, 1, [], [2, 4, 6, 7, 8, 9, 10]) := by decide +kernel
theorem bf23_25 : am_fetch (am_mth 23) 25 = some (.aload_n 0, 1, [], [2, 4, 6, 7, 8, 9, 10]) := by decide +kernel
theorem bf23_26 : am_fetch (am_mth 23) 26 = some (.getfield 9, 3, [0, 7, 0, 273], [2, 4, 6, 7, 8, 9, 10]) := by decide +kernel
theorem bf23_29 : am_fetch (am_mth 23) 29 = some (.iconst 2, 1, [], [2, 4, 6, 7, 8, 9, 10]) := by decide +kernel
theorem bf23_30 : am_fetch (am_mth 23) 30 = some (.laload, 1, [], [2, 4, 6, 7, 8, 9, 10]) := by decide +kernel
theorem bf23_31 : am_fetch (am_mth 23) 31 = some (.land, 1, [], [2, 4, 6, 7, 8, 9, 10]) := by decide +kernel
theorem bf23_32 : am_fetch (am_mth 23) 32 = some (.bipush 6, 2, [], [2, 4, 6, 7, 8, 9, 10]) := by decide +kernel
theorem bf23_34 : am_fetch (am_mth 23) 34 = some (.lshl, 1, [], [2, 4, 6, 7, 8, 9, 10]) := by decide +kernel
theorem bf23_35 : am_fetch (am_mth 23) 35 = some (.lstore 7, 2, [], [2, 4, 6, 7, 8, 9, 10]) := by decide +kernel
theorem bf23_37 : am_fetch (am_mth 23) 37 = some (.lload_n 1, 1, [], [2, 4, 6, 8, 9, 10]) := by decide +kernel
theorem bf23_38 : am_fetch (am_mth 23) 38 = some (.aload_n 0, 1, [], [2, 4, 6, 8, 9, 10]) := by decide +kernel
theorem bf23_39 : am_fetch (am_mth 23) 39 = some (.getfield 9, 3, [0, 7, 0, 273], [0, 2, 4, 6, 8, 9, 10]) := by decide +kernel
theorem bf23_42 : am_fetch (am_mth 23) 42 = some (.iconst 3, 1, [], [0, 2, 4, 6, 8, 9, 10]) := by decide +kernel
theorem bf23_43 : am_fetch (am_mth 23) 43 = some (.laload, 1, [], [0, 2, 4, 6, 8, 9, 10]) := by decide +kernel
theorem bf23_44 : am_fetch (am_mth 23) 44 = some (.land, 1, [], [0, 2, 4, 6, 8, 9, 10]) := by decide +kernel
theorem bf23_45 : am_fetch (am_mth 23) 45 = some (.iconst 1, 1, [], [0, 2, 4, 6, 8, 9, 10]) := by decide +kernel
theorem bf23_46 : am_fetch (am_mth 23) 46 = some (.lushr, 1, [], [0, 2, 4, 6, 8, 9, 10]) := by decide +kernel
theorem bf23_47 : am_fetch (am_mth 23) 47 = some (.lstore 9, 2, [], [0, 2, 4, 6, 8, 9, 10]) := by decide +kernel
theorem bf23_49 : am_fetch (am_mth 23) 49 = some (.lload_n 1, 1, [], [0, 2, 4, 6, 8, 10]) := by decide +kernel
theorem bf23_50 : am_fetch (am_mth 23) 50 = some (.lload_n 3, 1, [], [0, 1, 2, 4, 6, 8, 10]) := by decide +kernel
theorem bf23_51 : am_fetch (am_mth 23) 51 = some (.lor, 1, [], [0, 1, 2, 3, 4, 6, 8, 10]) := by decide +kernel
theorem bf23_52 : am_fetch (am_mth 23) 52 = some (.lload 5, 2, [], [0, 1, 2, 3, 4, 6, 8, 10]) := by decide +kernel
theorem bf23_54 : am_fetch (am_mth 23) 54 = some (.lor, 1, [], [0, 1, 2, 3, 4, 5, 6, 8, 10]) := by decide +kernel
theorem bf23_55 : am_fetch (am_mth 23) 55 = some (.lload 7, 2, [], [0, 1, 2, 3, 4, 5, 6, 8, 10]) := by decide +kernel
theorem bf23_57 : am_fetch (am_mth 23) 57 = some (.lor, 1, [], [0, 1, 2, 3, 4, 5, 6, 7, 8, 10]) := by decide +kernel
theorem bf23_58 : am_fetch (am_mth 23) 58 = some (.lload 9, 2, [], [0, 1, 2, 3, 4, 5, 6, 7, 8, 10]) := by decide +kernel
theorem bf23_60 : am_fetch (am_mth 23) 60 = some (.lor, 1, [], [0, 1, 2, 3, 4, 5, 6, 7, 8, 9, 10]) := by decide +kernel
theorem bf23_61 : am_fetch (am_mth 23) 61 = some (.lreturn, 1, [], [0, 1, 2, 3, 4, 5, 6, 7, 8, 9, 10]) := by decide +kernel
theorem bk23_0 {w : am_Wd} {l0 : Nat} {l1 : Int64} : am_run 23 0 [some (.ref l0), some (.long l1), none, none, none, none, none, none, none, none, none] [] w = (am_gf w l0 7 0).bind fun v => am_run 23 5 [some (.ref l0), some (.long l1), none, none, none, none, none, none, none, none, none] (v :: [.long l1]) w := by
  refine (bu (ls'' := [some (.ref l0), some (.long l1), none, none, none, none, none, none, none, none, none]) (st' := [.long l1]) bf23_0 bf23_1 rfl rfl).trans ?_
  refine (bu (ls'' := [some (.ref l0), some (.long l1), none, none, none, none, none, none, none, none, none]) (st' := [.ref l0, .long l1]) bf23_1 bf23_2 rfl rfl).trans ?_
  exact bh bf23_2 bf23_5 rfl (fun _ _ => am_ge_rf w) rfl
theorem bk23_5 {w : am_Wd} {l0 : Nat} {l1 : Int64} {s0 : Nat} {s1 : Int64} : am_run 23 5 [some (.ref l0), some (.long l1), none, none, none, none, none, none, none, none, none] [.ref s0, .long s1] w = (am_rl w s0 (nI 0)).bind fun v => am_run 23 7 [some (.ref l0), some (.long l1), none, none, none, none, none, none, none, none, none] (.long v :: [.long s1]) w := by
  refine (bu (ls'' := [some (.ref l0), some (.long l1), none, none, none, none, none, none, none, none, none]) (st' := [.int (nI 0), .ref s0, .long s1]) bf23_5 bf23_6 rfl rfl).trans ?_
  exact bh bf23_6 bf23_7 rfl (fun _ _ => am_ge_rf w) rfl
theorem bk23_7 {w : am_Wd} {l0 : Nat} {l1 : Int64} {s0 : Int64} {s1 : Int64} : am_run 23 7 [some (.ref l0), some (.long l1), none, none, none, none, none, none, none, none, none] [.long s0, .long s1] w = (am_gf w l0 7 0).bind fun v => am_run 23 17 [some (.ref l0), some (.long l1), none, some (.long (bj_lushr (s1 &&& s0) (nI 6))), none, none, none, none, none, none, none] (v :: [.long l1]) w := by
  refine (bu (ls'' := [some (.ref l0), some (.long l1), none, none, none, none, none, none, none, none, none]) (st' := [.long (s1 &&& s0)]) bf23_7 bf23_8 rfl rfl).trans ?_
  refine (bu (ls'' := [some (.ref l0), some (.long l1), none, none, none, none, none, none, none, none, none]) (st' := [.int (nI 6), .long (s1 &&& s0)]) bf23_8 bf23_10 rfl rfl).trans ?_
  refine (bu (ls'' := [some (.ref l0), some (.long l1), none, none, none, none, none, none, none, none, none]) (st' := [.long (bj_lushr (s1 &&& s0) (nI 6))]) bf23_10 bf23_11 rfl rfl).trans ?_
  refine (bu (ls'' := [some (.ref l0), some (.long l1), none, some (.long (bj_lushr (s1 &&& s0) (nI 6))), none, none, none, none, none, none, none]) (st' := []) bf23_11 bf23_12 rfl rfl).trans ?_
  refine (bu (ls'' := [some (.ref l0), some (.long l1), none, some (.long (bj_lushr (s1 &&& s0) (nI 6))), none, none, none, none, none, none, none]) (st' := [.long l1]) bf23_12 bf23_13 rfl rfl).trans ?_
  refine (bu (ls'' := [some (.ref l0), some (.long l1), none, some (.long (bj_lushr (s1 &&& s0) (nI 6))), none, none, none, none, none, none, none]) (st' := [.ref l0, .long l1]) bf23_13 bf23_14 rfl rfl).trans ?_
  exact bh bf23_14 bf23_17 rfl (fun _ _ => am_ge_rf w) rfl
theorem bk23_17 {w : am_Wd} {l0 : Nat} {l1 : Int64} {l3 : Int64} {s0 : Nat} {s1 : Int64} : am_run 23 17 [some (.ref l0), some (.long l1), none, some (.long l3), none, none, none, none, none, none, none] [.ref s0, .long s1] w = (am_rl w s0 (nI 1)).bind fun v => am_run 23 19 [some (.ref l0), some (.long l1), none, some (.long l3), none, none, none, none, none, none, none] (.long v :: [.long s1]) w := by
  refine (bu (ls'' := [some (.ref l0), some (.long l1), none, some (.long l3), none, none, none, none, none, none, none]) (st' := [.int (nI 1), .ref s0, .long s1]) bf23_17 bf23_18 rfl rfl).trans ?_
  exact bh bf23_18 bf23_19 rfl (fun _ _ => am_ge_rf w) rfl
theorem bk23_19 {w : am_Wd} {l0 : Nat} {l1 : Int64} {l3 : Int64} {s0 : Int64} {s1 : Int64} : am_run 23 19 [some (.ref l0), some (.long l1), none, some (.long l3), none, none, none, none, none, none, none] [.long s0, .long s1] w = (am_gf w l0 7 0).bind fun v => am_run 23 29 [some (.ref l0), some (.long l1), none, some (.long l3), none, some (.long (bj_lshl (s1 &&& s0) (nI 1))), none, none, none, none, none] (v :: [.long l1]) w := by
  refine (bu (ls'' := [some (.ref l0), some (.long l1), none, some (.long l3), none, none, none, none, none, none, none]) (st' := [.long (s1 &&& s0)]) bf23_19 bf23_20 rfl rfl).trans ?_
  refine (bu (ls'' := [some (.ref l0), some (.long l1), none, some (.long l3), none, none, none, none, none, none, none]) (st' := [.int (nI 1), .long (s1 &&& s0)]) bf23_20 bf23_21 rfl rfl).trans ?_
  refine (bu (ls'' := [some (.ref l0), some (.long l1), none, some (.long l3), none, none, none, none, none, none, none]) (st' := [.long (bj_lshl (s1 &&& s0) (nI 1))]) bf23_21 bf23_22 rfl rfl).trans ?_
  refine (bu (ls'' := [some (.ref l0), some (.long l1), none, some (.long l3), none, some (.long (bj_lshl (s1 &&& s0) (nI 1))), none, none, none, none, none]) (st' := []) bf23_22 bf23_24 rfl rfl).trans ?_
  refine (bu (ls'' := [some (.ref l0), some (.long l1), none, some (.long l3), none, some (.long (bj_lshl (s1 &&& s0) (nI 1))), none, none, none, none, none]) (st' := [.long l1]) bf23_24 bf23_25 rfl rfl).trans ?_
  refine (bu (ls'' := [some (.ref l0), some (.long l1), none, some (.long l3), none, some (.long (bj_lshl (s1 &&& s0) (nI 1))), none, none, none, none, none]) (st' := [.ref l0, .long l1]) bf23_25 bf23_26 rfl rfl).trans ?_
  exact bh bf23_26 bf23_29 rfl (fun _ _ => am_ge_rf w) rfl
theorem bk23_29 {w : am_Wd} {l0 : Nat} {l1 : Int64} {l3 : Int64} {l5 : Int64} {s0 : Nat} {s1 : Int64} : am_run 23 29 [some (.ref l0), some (.long l1), none, some (.long l3), none, some (.long l5), none, none, none, none, none] [.ref s0, .long s1] w = (am_rl w s0 (nI 2)).bind fun v => am_run 23 31 [some (.ref l0), some (.long l1), none, some (.long l3), none, some (.long l5), none, none, none, none, none] (.long v :: [.long s1]) w := by
  refine (bu (ls'' := [some (.ref l0), some (.long l1), none, some (.long l3), none, some (.long l5), none, none, none, none, none]) (st' := [.int (nI 2), .ref s0, .long s1]) bf23_29 bf23_30 rfl rfl).trans ?_
  exact bh bf23_30 bf23_31 rfl (fun _ _ => am_ge_rf w) rfl
theorem bk23_31 {w : am_Wd} {l0 : Nat} {l1 : Int64} {l3 : Int64} {l5 : Int64} {s0 : Int64} {s1 : Int64} : am_run 23 31 [some (.ref l0), some (.long l1), none, some (.long l3), none, some (.long l5), none, none, none, none, none] [.long s0, .long s1] w = (am_gf w l0 7 0).bind fun v => am_run 23 42 [none, some (.long l1), none, some (.long l3), none, some (.long l5), none, some (.long (bj_lshl (s1 &&& s0) (nI 6))), none, none, none] (v :: [.long l1]) w := by
  refine (bu (ls'' := [some (.ref l0), some (.long l1), none, some (.long l3), none, some (.long l5), none, none, none, none, none]) (st' := [.long (s1 &&& s0)]) bf23_31 bf23_32 rfl rfl).trans ?_
  refine (bu (ls'' := [some (.ref l0), some (.long l1), none, some (.long l3), none, some (.long l5), none, none, none, none, none]) (st' := [.int (nI 6), .long (s1 &&& s0)]) bf23_32 bf23_34 rfl rfl).trans ?_
  refine (bu (ls'' := [some (.ref l0), some (.long l1), none, some (.long l3), none, some (.long l5), none, none, none, none, none]) (st' := [.long (bj_lshl (s1 &&& s0) (nI 6))]) bf23_34 bf23_35 rfl rfl).trans ?_
  refine (bu (ls'' := [some (.ref l0), some (.long l1), none, some (.long l3), none, some (.long l5), none, some (.long (bj_lshl (s1 &&& s0) (nI 6))), none, none, none]) (st' := []) bf23_35 bf23_37 rfl rfl).trans ?_
  refine (bu (ls'' := [some (.ref l0), some (.long l1), none, some (.long l3), none, some (.long l5), none, some (.long (bj_lshl (s1 &&& s0) (nI 6))), none, none, none]) (st' := [.long l1]) bf23_37 bf23_38 rfl rfl).trans ?_
  refine (bu (ls'' := [none, some (.long l1), none, some (.long l3), none, some (.long l5), none, some (.long (bj_lshl (s1 &&& s0) (nI 6))), none, none, none]) (st' := [.ref l0, .long l1]) bf23_38 bf23_39 rfl rfl).trans ?_
  exact bh bf23_39 bf23_42 rfl (fun _ _ => am_ge_rf w) rfl
theorem bk23_42 {w : am_Wd} {l1 : Int64} {l3 : Int64} {l5 : Int64} {l7 : Int64} {s0 : Nat} {s1 : Int64} : am_run 23 42 [none, some (.long l1), none, some (.long l3), none, some (.long l5), none, some (.long l7), none, none, none] [.ref s0, .long s1] w = (am_rl w s0 (nI 3)).bind fun v => am_run 23 44 [none, some (.long l1), none, some (.long l3), none, some (.long l5), none, some (.long l7), none, none, none] (.long v :: [.long s1]) w := by
  refine (bu (ls'' := [none, some (.long l1), none, some (.long l3), none, some (.long l5), none, some (.long l7), none, none, none]) (st' := [.int (nI 3), .ref s0, .long s1]) bf23_42 bf23_43 rfl rfl).trans ?_
  exact bh bf23_43 bf23_44 rfl (fun _ _ => am_ge_rf w) rfl
theorem bk23_44 {w : am_Wd} {l1 : Int64} {l3 : Int64} {l5 : Int64} {l7 : Int64} {s0 : Int64} {s1 : Int64} : am_run 23 44 [none, some (.long l1), none, some (.long l3), none, some (.long l5), none, some (.long l7), none, none, none] [.long s0, .long s1] w = some (.inl (some (.long ((((l1 ||| l3) ||| l5) ||| l7) ||| (bj_lushr (s1 &&& s0) (nI 1))))), w) := by
  refine (bu (ls'' := [none, some (.long l1), none, some (.long l3), none, some (.long l5), none, some (.long l7), none, none, none]) (st' := [.long (s1 &&& s0)]) bf23_44 bf23_45 rfl rfl).trans ?_
  refine (bu (ls'' := [none, some (.long l1), none, some (.long l3), none, some (.long l5), none, some (.long l7), none, none, none]) (st' := [.int (nI 1), .long (s1 &&& s0)]) bf23_45 bf23_46 rfl rfl).trans ?_
  refine (bu (ls'' := [none, some (.long l1), none, some (.long l3), none, some (.long l5), none, some (.long l7), none, none, none]) (st' := [.long (bj_lushr (s1 &&& s0) (nI 1))]) bf23_46 bf23_47 rfl rfl).trans ?_
  refine (bu (ls'' := [none, some (.long l1), none, some (.long l3), none, some (.long l5), none, some (.long l7), none, some (.long (bj_lushr (s1 &&& s0) (nI 1))), none]) (st' := []) bf23_47 bf23_49 rfl rfl).trans ?_
  refine (bu (ls'' := [none, none, none, some (.long l3), none, some (.long l5), none, some (.long l7), none, some (.long (bj_lushr (s1 &&& s0) (nI 1))), none]) (st' := [.long l1]) bf23_49 bf23_50 rfl rfl).trans ?_
  refine (bu (ls'' := [none, none, none, none, none, some (.long l5), none, some (.long l7), none, some (.long (bj_lushr (s1 &&& s0) (nI 1))), none]) (st' := [.long l3, .long l1]) bf23_50 bf23_51 rfl rfl).trans ?_
  refine (bu (ls'' := [none, none, none, none, none, some (.long l5), none, some (.long l7), none, some (.long (bj_lushr (s1 &&& s0) (nI 1))), none]) (st' := [.long (l1 ||| l3)]) bf23_51 bf23_52 rfl rfl).trans ?_
  refine (bu (ls'' := [none, none, none, none, none, none, none, some (.long l7), none, some (.long (bj_lushr (s1 &&& s0) (nI 1))), none]) (st' := [.long l5, .long (l1 ||| l3)]) bf23_52 bf23_54 rfl rfl).trans ?_
  refine (bu (ls'' := [none, none, none, none, none, none, none, some (.long l7), none, some (.long (bj_lushr (s1 &&& s0) (nI 1))), none]) (st' := [.long ((l1 ||| l3) ||| l5)]) bf23_54 bf23_55 rfl rfl).trans ?_
  refine (bu (ls'' := [none, none, none, none, none, none, none, none, none, some (.long (bj_lushr (s1 &&& s0) (nI 1))), none]) (st' := [.long l7, .long ((l1 ||| l3) ||| l5)]) bf23_55 bf23_57 rfl rfl).trans ?_
  refine (bu (ls'' := [none, none, none, none, none, none, none, none, none, some (.long (bj_lushr (s1 &&& s0) (nI 1))), none]) (st' := [.long (((l1 ||| l3) ||| l5) ||| l7)]) bf23_57 bf23_58 rfl rfl).trans ?_
  refine (bu (ls'' := [none, none, none, none, none, none, none, none, none, none, none]) (st' := [.long (bj_lushr (s1 &&& s0) (nI 1)), .long (((l1 ||| l3) ||| l5) ||| l7)]) bf23_58 bf23_60 rfl rfl).trans ?_
  refine (bu (ls'' := [none, none, none, none, none, none, none, none, none, none, none]) (st' := [.long ((((l1 ||| l3) ||| l5) ||| l7) ||| (bj_lushr (s1 &&& s0) (nI 1)))]) bf23_60 bf23_61 rfl rfl).trans ?_
  exact am_e2 bf23_61 rfl (am_ge_rf w)
theorem bf24_0 : am_fetch (am_mth 24) 0 = some (.aload_n 0, 1, [], []) := by decide +kernel
theorem bf24_1 : am_fetch (am_mth 24) 1 = some (.dup, 1, [], []) := by decide +kernel
theorem bf24_2 : am_fetch (am_mth 24) 2 = some (.getfield 197, 3, [0, 8, 8, 71], []) := by decide +kernel
theorem bf24_5 : am_fetch (am_mth 24) 5 = some (.iconst 1, 1, [], []) := by decide +kernel
theorem bf24_6 : am_fetch (am_mth 24) 6 = some (.iadd, 1, [], []) := by decide +kernel
theorem bf24_7 : am_fetch (am_mth 24) 7 = some (.putfield 197, 3, [0, 8, 8, 71], []) := by decide +kernel
theorem bf24_10 : am_fetch (am_mth 24) 10 = some (.aload_n 0, 1, [], []) := by decide +kernel
theorem bf24_11 : am_fetch (am_mth 24) 11 = some (.getfield 197, 3, [0, 8, 8, 71], [0]) := by decide +kernel
theorem bf24_14 : am_fetch (am_mth 24) 14 = some (.ireturn, 1, [0], [0]) := by decide +kernel
theorem bk24_0 {w : am_Wd} {l0 : Nat} : am_run 24 0 [some (.ref l0)] [] w = (am_gf w l0 8 8).bind fun v => am_run 24 5 [some (.ref l0)] (v :: [.ref l0]) w := by
  refine (bu (ls'' := [some (.ref l0)]) (st' := [.ref l0]) bf24_0 bf24_1 rfl rfl).trans ?_
  refine (bu (ls'' := [some (.ref l0)]) (st' := [.ref l0, .ref l0]) bf24_1 bf24_2 rfl rfl).trans ?_
  exact bh bf24_2 bf24_5 rfl (fun _ _ => am_ge_rf w) rfl
theorem bk24_5 {w : am_Wd} {l0 : Nat} {s0 : Int32} {s1 : Nat} : am_run 24 5 [some (.ref l0)] [.int s0, .ref s1] w = (am_pf w s1 8 8 (.int (s0 + (nI 1)))).bind fun w' => am_run 24 10 [some (.ref l0)] [] w' := by
  refine (bu (ls'' := [some (.ref l0)]) (st' := [.int (nI 1), .int s0, .ref s1]) bf24_5 bf24_6 rfl rfl).trans ?_
  refine (bu (ls'' := [some (.ref l0)]) (st' := [.int (s0 + (nI 1)), .ref s1]) bf24_6 bf24_7 rfl rfl).trans ?_
  exact bh bf24_7 bf24_10 rfl (bge_pf) rfl
theorem bk24_10 {w : am_Wd} {l0 : Nat} : am_run 24 10 [some (.ref l0)] [] w = (am_gf w l0 8 8).bind fun v => am_run 24 14 [none] (v :: []) w := by
  refine (bu (ls'' := [none]) (st' := [.ref l0]) bf24_10 bf24_11 rfl rfl).trans ?_
  exact bh bf24_11 bf24_14 rfl (fun _ _ => am_ge_rf w) rfl
theorem bk24_14 {w : am_Wd} {s0 : Int32} : am_run 24 14 [none] [.int s0] w = some (.inl (some (.int s0)), w) := by
  exact am_e2 bf24_14 rfl (am_ge_rf w)
theorem bf25_0 : am_fetch (am_mth 25) 0 = some (.lload_n 0, 1, [], [1, 3]) := by decide +kernel
theorem bf25_1 : am_fetch (am_mth 25) 1 = some (.ldc2_w 336, 3, [0, 31, 464], [0, 1, 3]) := by decide +kernel
theorem bf25_4 : am_fetch (am_mth 25) 4 = some (.lmul, 1, [], [0, 1, 3]) := by decide +kernel
theorem bf25_5 : am_fetch (am_mth 25) 5 = some (.lload_n 2, 1, [], [0, 1, 3]) := by decide +kernel
theorem bf25_6 : am_fetch (am_mth 25) 6 = some (.ladd, 1, [], [0, 1, 2, 3]) := by decide +kernel
theorem bf25_7 : am_fetch (am_mth 25) 7 = some (.lreturn, 1, [], [0, 1, 2, 3]) := by decide +kernel
theorem bk25_0 {w : am_Wd} {l0 : Int64} {l2 : Int64} : am_run 25 0 [some (.long l0), none, some (.long l2), none] [] w = some (.inl (some (.long ((l0 * (lN 31)) + l2))), w) := by
  refine (bu (ls'' := [none, none, some (.long l2), none]) (st' := [.long l0]) bf25_0 bf25_1 rfl rfl).trans ?_
  refine (bu (ls'' := [none, none, some (.long l2), none]) (st' := [.long (lN 31), .long l0]) bf25_1 bf25_4 rfl rfl).trans ?_
  refine (bu (ls'' := [none, none, some (.long l2), none]) (st' := [.long (l0 * (lN 31))]) bf25_4 bf25_5 rfl rfl).trans ?_
  refine (bu (ls'' := [none, none, none, none]) (st' := [.long l2, .long (l0 * (lN 31))]) bf25_5 bf25_6 rfl rfl).trans ?_
  refine (bu (ls'' := [none, none, none, none]) (st' := [.long ((l0 * (lN 31)) + l2)]) bf25_6 bf25_7 rfl rfl).trans ?_
  exact am_e2 bf25_7 rfl (am_ge_rf w)
theorem bf26_0 : am_fetch (am_mth 26) 0 = some (.iload_n 0, 1, [], []) := by decide +kernel
theorem bf26_1 : am_fetch (am_mth 26) 1 = some (.ifCond .eq 7, 3, [], [0]) := by decide +kernel
theorem bf26_4 : am_fetch (am_mth 26) 4 = some (.iconst 1, 1, [], [0]) := by decide +kernel
theorem bf26_5 : am_fetch (am_mth 26) 5 = some (.goto 4, 3, [], [0]) := by decide +kernel
theorem bf26_8 : am_fetch (am_mth 26) 8 = some (.iconst 0, 1, [], [0]) := by decide +kernel
theorem bf26_9 : am_fetch (am_mth 26) 9 = some (.ireturn, 1, [0], [0]) := by decide +kernel
theorem bk26_0 {w : am_Wd} {l0 : Int32} : am_run 26 0 [some (.int l0)] [] w = if l0 = nI 0 then am_run 26 8 [none] [] w else am_run 26 4 [none] [] w := by
  refine (bu (ls'' := [none]) (st' := [.int l0]) bf26_0 bf26_1 rfl rfl).trans ?_
  exact bifc bf26_1 rfl bf26_8 bf26_4 rfl rfl rfl
theorem bk26_8 {w : am_Wd}  : am_run 26 8 [none] [] w = am_run 26 9 [none] [.int (nI 0)] w := by
  refine (bu (ls'' := [none]) (st' := [.int (nI 0)]) bf26_8 bf26_9 rfl rfl).trans ?_
  rfl
theorem bk26_4 {w : am_Wd}  : am_run 26 4 [none] [] w = am_run 26 9 [none] [.int (nI 1)] w := by
  refine (bu (ls'' := [none]) (st' := [.int (nI 1)]) bf26_4 bf26_5 rfl rfl).trans ?_
  refine (bu (ls'' := [none]) (st' := [.int (nI 1)]) bf26_5 bf26_9 rfl rfl).trans ?_
  rfl
theorem bk26_9 {w : am_Wd} {s0 : Int32} : am_run 26 9 [none] [.int s0] w = some (.inl (some (.int s0)), w) := by
  exact am_e2 bf26_9 rfl (am_ge_rf w)
theorem bf27_0 : am_fetch (am_mth 27) 0 = some (.bipush 29, 2, [], []) := by decide +kernel
theorem bf27_2 : am_fetch (am_mth 27) 2 = some (.iload_n 0, 1, [], []) := by decide +kernel
theorem bf27_3 : am_fetch (am_mth 27) 3 = some (.imul, 1, [], [0]) := by decide +kernel
theorem bf27_4 : am_fetch (am_mth 27) 4 = some (.bipush 13, 2, [], [0]) := by decide +kernel
theorem bf27_6 : am_fetch (am_mth 27) 6 = some (.iadd, 1, [], [0]) := by decide +kernel
theorem bf27_7 : am_fetch (am_mth 27) 7 = some (.bipush 127, 2, [], [0]) := by decide +kernel
theorem bf27_9 : am_fetch (am_mth 27) 9 = some (.irem, 1, [], [0]) := by decide +kernel
theorem bf27_10 : am_fetch (am_mth 27) 10 = some (.ireturn, 1, [0], [0]) := by decide +kernel
theorem bk27_0 {w : am_Wd} {l0 : Int32} : am_run 27 0 [some (.int l0)] [] w = some (.inl (some (.int (bj_irem (((nI 29) * l0) + (nI 13)) (nI 127)))), w) := by
  refine (bu (ls'' := [some (.int l0)]) (st' := [.int (nI 29)]) bf27_0 bf27_2 rfl rfl).trans ?_
  refine (bu (ls'' := [none]) (st' := [.int l0, .int (nI 29)]) bf27_2 bf27_3 rfl rfl).trans ?_
  refine (bu (ls'' := [none]) (st' := [.int ((nI 29) * l0)]) bf27_3 bf27_4 rfl rfl).trans ?_
  refine (bu (ls'' := [none]) (st' := [.int (nI 13), .int ((nI 29) * l0)]) bf27_4 bf27_6 rfl rfl).trans ?_
  refine (bu (ls'' := [none]) (st' := [.int (((nI 29) * l0) + (nI 13))]) bf27_6 bf27_7 rfl rfl).trans ?_
  refine (bu (ls'' := [none]) (st' := [.int (nI 127), .int (((nI 29) * l0) + (nI 13))]) bf27_7 bf27_9 rfl rfl).trans ?_
  refine (bu (ls'' := [none]) (st' := [.int (bj_irem (((nI 29) * l0) + (nI 13)) (nI 127))]) bf27_9 bf27_10 rfl rfl).trans ?_
  exact am_e2 bf27_10 rfl (am_ge_rf w)
theorem bf28_0 : am_fetch (am_mth 28) 0 = some (.iload_n 0, 1, [], []) := by decide +kernel
theorem bf28_1 : am_fetch (am_mth 28) 1 = some (.ifCond .ne 14, 3, [], [0]) := by decide +kernel
theorem bf28_4 : am_fetch (am_mth 28) 4 = some (.new 338, 3, [2, 1, 101, 22, 142, 340, 342], [0]) := by decide +kernel
theorem bf28_7 : am_fetch (am_mth 28) 7 = some (.dup, 1, [], [0]) := by decide +kernel
theorem bf28_8 : am_fetch (am_mth 28) 8 = some (.ldc_w 340, 3, [1, 14, 142], [0]) := by decide +kernel
theorem bf28_11 : am_fetch (am_mth 28) 11 = some (.invokespecial 342, 3, [], [0]) := by decide +kernel
theorem bf28_14 : am_fetch (am_mth 28) 14 = some (.athrow, 1, [], [0]) := by decide +kernel
theorem bf28_15 : am_fetch (am_mth 28) 15 = some (.return_, 1, [], [0]) := by decide +kernel
theorem bk28_0 {w : am_Wd} {l0 : Int32} : am_run 28 0 [some (.int l0)] [] w = if ¬ l0 = nI 0 then am_run 28 15 [none] [] w else am_run 28 4 [none] [] w := by
  refine (bu (ls'' := [none]) (st' := [.int l0]) bf28_0 bf28_1 rfl rfl).trans ?_
  exact bifc bf28_1 rfl bf28_15 bf28_4 rfl rfl rfl
theorem bk28_15 {w : am_Wd}  : am_run 28 15 [none] [] w = some (.inl none, w) := by
  exact am_e2 bf28_15 rfl (am_ge_rf w)
theorem bk28_4 {w : am_Wd}  : am_run 28 4 [none] [] w = some (.inr (am_xn 1), am_jk w 1 6) := by
  exact am_e2 bf28_4 rfl (am_ge_jk _ _ _)
theorem bf29_0 : am_fetch (am_mth 29) 0 = some (.iload_n 0, 1, [], []) := by decide +kernel
theorem bf29_1 : am_fetch (am_mth 29) 1 = some (.ifCond .lt 9, 3, [], []) := by decide +kernel
theorem bf29_4 : am_fetch (am_mth 29) 4 = some (.iload_n 0, 1, [], []) := by decide +kernel
theorem bf29_5 : am_fetch (am_mth 29) 5 = some (.bipush 36, 2, [], [0]) := by decide +kernel
theorem bf29_7 : am_fetch (am_mth 29) 7 = some (.if_icmp .lt 14, 3, [], [0]) := by decide +kernel
theorem bf29_10 : am_fetch (am_mth 29) 10 = some (.new 223, 3, [2, 0, 203, 25, 212, 343, 227], [0]) := by decide +kernel
theorem bf29_13 : am_fetch (am_mth 29) 13 = some (.dup, 1, [], [0]) := by decide +kernel
theorem bf29_14 : am_fetch (am_mth 29) 14 = some (.ldc_w 343, 3, [1, 15, 212], [0]) := by decide +kernel
theorem bf29_17 : am_fetch (am_mth 29) 17 = some (.invokespecial 227, 3, [], [0]) := by decide +kernel
theorem bf29_20 : am_fetch (am_mth 29) 20 = some (.athrow, 1, [], [0]) := by decide +kernel
theorem bf29_21 : am_fetch (am_mth 29) 21 = some (.return_, 1, [], [0]) := by decide +kernel
theorem bk29_0 {w : am_Wd} {l0 : Int32} : am_run 29 0 [some (.int l0)] [] w = if l0 < nI 0 then am_run 29 10 [none] [] w else am_run 29 4 [some (.int l0)] [] w := by
  refine (bu (ls'' := [some (.int l0)]) (st' := [.int l0]) bf29_0 bf29_1 rfl rfl).trans ?_
  exact bifc bf29_1 rfl bf29_10 bf29_4 rfl rfl rfl
theorem bk29_10 {w : am_Wd}  : am_run 29 10 [none] [] w = some (.inr (am_xn 0), am_jk w 1 6) := by
  exact am_e2 bf29_10 rfl (am_ge_jk _ _ _)
theorem bk29_4 {w : am_Wd} {l0 : Int32} : am_run 29 4 [some (.int l0)] [] w = if l0 < (nI 36) then am_run 29 21 [none] [] w else am_run 29 10 [none] [] w := by
  refine (bu (ls'' := [none]) (st' := [.int l0]) bf29_4 bf29_5 rfl rfl).trans ?_
  refine (bu (ls'' := [none]) (st' := [.int (nI 36), .int l0]) bf29_5 bf29_7 rfl rfl).trans ?_
  exact bic bf29_7 rfl bf29_21 bf29_10 rfl rfl rfl
theorem bk29_21 {w : am_Wd}  : am_run 29 21 [none] [] w = some (.inl none, w) := by
  exact am_e2 bf29_21 rfl (am_ge_rf w)
theorem bf30_0 : am_fetch (am_mth 30) 0 = some (.iload_n 0, 1, [], []) := by decide +kernel
theorem bf30_1 : am_fetch (am_mth 30) 1 = some (.ifCond .lt 8, 3, [], []) := by decide +kernel
theorem bf30_4 : am_fetch (am_mth 30) 4 = some (.iload_n 0, 1, [], []) := by decide +kernel
theorem bf30_5 : am_fetch (am_mth 30) 5 = some (.iconst 4, 1, [], [0]) := by decide +kernel
theorem bf30_6 : am_fetch (am_mth 30) 6 = some (.if_icmp .lt 14, 3, [], [0]) := by decide +kernel
theorem bf30_9 : am_fetch (am_mth 30) 9 = some (.new 223, 3, [2, 0, 203, 25, 472, 345, 227], [0]) := by decide +kernel
theorem bf30_12 : am_fetch (am_mth 30) 12 = some (.dup, 1, [], [0]) := by decide +kernel
theorem bf30_13 : am_fetch (am_mth 30) 13 = some (.ldc_w 345, 3, [1, 16, 472], [0]) := by decide +kernel
theorem bf30_16 : am_fetch (am_mth 30) 16 = some (.invokespecial 227, 3, [], [0]) := by decide +kernel
theorem bf30_19 : am_fetch (am_mth 30) 19 = some (.athrow, 1, [], [0]) := by decide +kernel
theorem bf30_20 : am_fetch (am_mth 30) 20 = some (.return_, 1, [], [0]) := by decide +kernel
theorem bk30_0 {w : am_Wd} {l0 : Int32} : am_run 30 0 [some (.int l0)] [] w = if l0 < nI 0 then am_run 30 9 [none] [] w else am_run 30 4 [some (.int l0)] [] w := by
  refine (bu (ls'' := [some (.int l0)]) (st' := [.int l0]) bf30_0 bf30_1 rfl rfl).trans ?_
  exact bifc bf30_1 rfl bf30_9 bf30_4 rfl rfl rfl
theorem bk30_9 {w : am_Wd}  : am_run 30 9 [none] [] w = some (.inr (am_xn 0), am_jk w 1 6) := by
  exact am_e2 bf30_9 rfl (am_ge_jk _ _ _)
theorem bk30_4 {w : am_Wd} {l0 : Int32} : am_run 30 4 [some (.int l0)] [] w = if l0 < (nI 4) then am_run 30 20 [none] [] w else am_run 30 9 [none] [] w := by
  refine (bu (ls'' := [none]) (st' := [.int l0]) bf30_4 bf30_5 rfl rfl).trans ?_
  refine (bu (ls'' := [none]) (st' := [.int (nI 4), .int l0]) bf30_5 bf30_6 rfl rfl).trans ?_
  exact bic bf30_6 rfl bf30_20 bf30_9 rfl rfl rfl
theorem bk30_20 {w : am_Wd}  : am_run 30 20 [none] [] w = some (.inl none, w) := by
  exact am_e2 bf30_20 rfl (am_ge_rf w)
theorem bf31_0 : am_fetch (am_mth 31) 0 = some (.iload_n 1, 1, [], []) := by decide +kernel
theorem bf31_1 : am_fetch (am_mth 31) 1 = some (.ifCond .lt 21, 3, [], []) := by decide +kernel
theorem bf31_4 : am_fetch (am_mth 31) 4 = some (.iload_n 1, 1, [], []) := by decide +kernel
theorem bf31_5 : am_fetch (am_mth 31) 5 = some (.aload_n 0, 1, [], []) := by decide +kernel
theorem bf31_6 : am_fetch (am_mth 31) 6 = some (.getfield 18, 3, [0, 8, 1, 64], []) := by decide +kernel
theorem bf31_9 : am_fetch (am_mth 31) 9 = some (.arraylength, 1, [], []) := by decide +kernel
theorem bf31_10 : am_fetch (am_mth 31) 10 = some (.if_icmp .ge 12, 3, [], []) := by decide +kernel
theorem bf31_13 : am_fetch (am_mth 31) 13 = some (.aload_n 0, 1, [], []) := by decide +kernel
theorem bf31_14 : am_fetch (am_mth 31) 14 = some (.getfield 18, 3, [0, 8, 1, 64], []) := by decide +kernel
theorem bf31_17 : am_fetch (am_mth 31) 17 = some (.iload_n 1, 1, [], []) := by decide +kernel
theorem bf31_18 : am_fetch (am_mth 31) 18 = some (.aaload, 1, [], []) := by decide +kernel
theorem bf31_19 : am_fetch (am_mth 31) 19 = some (.ifnonnull 14, 3, [], []) := by decide +kernel
theorem bf31_22 : am_fetch (am_mth 31) 22 = some (.new 223, 3, [2, 0, 203, 25, 347, 347, 227], [0, 1]) := by decide +kernel
theorem bf31_25 : am_fetch (am_mth 31) 25 = some (.dup, 1, [], [0, 1]) := by decide +kernel
theorem bf31_26 : am_fetch (am_mth 31) 26 = some (.ldc_w 347, 3, [1, 17, 347], [0, 1]) := by decide +kernel
theorem bf31_29 : am_fetch (am_mth 31) 29 = some (.invokespecial 227, 3, [], [0, 1]) := by decide +kernel
theorem bf31_32 : am_fetch (am_mth 31) 32 = some (.athrow, 1, [], [0, 1]) := by decide +kernel
theorem bf31_33 : am_fetch (am_mth 31) 33 = some (.aload_n 0, 1, [], []) := by decide +kernel
theorem bf31_34 : am_fetch (am_mth 31) 34 = some (.getfield 18, 3, [0, 8, 1, 64], [0]) := by decide +kernel
theorem bf31_37 : am_fetch (am_mth 31) 37 = some (.iload_n 1, 1, [], [0]) := by decide +kernel
theorem bf31_38 : am_fetch (am_mth 31) 38 = some (.aaload, 1, [], [0, 1]) := by decide +kernel
theorem bf31_39 : am_fetch (am_mth 31) 39 = some (.areturn, 1, [], [0, 1]) := by decide +kernel
theorem bk31_0 {w : am_Wd} {l0 : Nat} {l1 : Int32} : am_run 31 0 [some (.ref l0), some (.int l1)] [] w = if l1 < nI 0 then am_run 31 22 [none, none] [] w else am_run 31 4 [some (.ref l0), some (.int l1)] [] w := by
  refine (bu (ls'' := [some (.ref l0), some (.int l1)]) (st' := [.int l1]) bf31_0 bf31_1 rfl rfl).trans ?_
  exact bifc bf31_1 rfl bf31_22 bf31_4 rfl rfl rfl
theorem bk31_22 {w : am_Wd}  : am_run 31 22 [none, none] [] w = some (.inr (am_xn 0), am_jk w 1 6) := by
  exact am_e2 bf31_22 rfl (am_ge_jk _ _ _)
theorem bk31_4 {w : am_Wd} {l0 : Nat} {l1 : Int32} : am_run 31 4 [some (.ref l0), some (.int l1)] [] w = (am_gf w l0 8 1).bind fun v => am_run 31 9 [some (.ref l0), some (.int l1)] (v :: [.int l1]) w := by
  refine (bu (ls'' := [some (.ref l0), some (.int l1)]) (st' := [.int l1]) bf31_4 bf31_5 rfl rfl).trans ?_
  refine (bu (ls'' := [some (.ref l0), some (.int l1)]) (st' := [.ref l0, .int l1]) bf31_5 bf31_6 rfl rfl).trans ?_
  exact bh bf31_6 bf31_9 rfl (fun _ _ => am_ge_rf w) rfl
theorem bk31_9 {w : am_Wd} {l0 : Nat} {l1 : Int32} {s0 : Nat} {s1 : Int32} : am_run 31 9 [some (.ref l0), some (.int l1)] [.ref s0, .int s1] w = (am_len w s0).bind fun v => am_run 31 10 [some (.ref l0), some (.int l1)] (.int (nI v) :: [.int s1]) w := by
  exact bh bf31_9 bf31_10 rfl (fun _ _ => am_ge_rf w) rfl
theorem bk31_10 {w : am_Wd} {l0 : Nat} {l1 : Int32} {s0 : Int32} {s1 : Int32} : am_run 31 10 [some (.ref l0), some (.int l1)] [.int s0, .int s1] w = if s0 ≤ s1 then am_run 31 22 [none, none] [] w else am_run 31 13 [some (.ref l0), some (.int l1)] [] w := by
  exact bic bf31_10 rfl bf31_22 bf31_13 rfl rfl rfl
theorem bk31_13 {w : am_Wd} {l0 : Nat} {l1 : Int32} : am_run 31 13 [some (.ref l0), some (.int l1)] [] w = (am_gf w l0 8 1).bind fun v => am_run 31 17 [some (.ref l0), some (.int l1)] (v :: []) w := by
  refine (bu (ls'' := [some (.ref l0), some (.int l1)]) (st' := [.ref l0]) bf31_13 bf31_14 rfl rfl).trans ?_
  exact bh bf31_14 bf31_17 rfl (fun _ _ => am_ge_rf w) rfl
theorem bk31_17 {w : am_Wd} {l0 : Nat} {l1 : Int32} {s0 : Nat} : am_run 31 17 [some (.ref l0), some (.int l1)] [.ref s0] w = (am_rq w s0 l1).bind fun v => am_run 31 19 [some (.ref l0), some (.int l1)] (v :: []) w := by
  refine (bu (ls'' := [some (.ref l0), some (.int l1)]) (st' := [.int l1, .ref s0]) bf31_17 bf31_18 rfl rfl).trans ?_
  exact bh bf31_18 bf31_19 rfl (fun _ _ => am_ge_rf w) rfl
theorem bk31_19 {w : am_Wd} {l0 : Nat} {l1 : Int32} {s0 : Nat} : am_run 31 19 [some (.ref l0), some (.int l1)] [.ref s0] w = (am_gf w l0 8 1).bind fun v => am_run 31 37 [none, some (.int l1)] (v :: []) w := by
  refine (bu (ls'' := [some (.ref l0), some (.int l1)]) (st' := []) bf31_19 bf31_33 rfl rfl).trans ?_
  refine (bu (ls'' := [none, some (.int l1)]) (st' := [.ref l0]) bf31_33 bf31_34 rfl rfl).trans ?_
  exact bh bf31_34 bf31_37 rfl (fun _ _ => am_ge_rf w) rfl
theorem bk31_19a {w : am_Wd} {l0 : Nat} {l1 : Int32} : am_run 31 19 [some (.ref l0), some (.int l1)] [.null] w = am_run 31 22 [none, none] [] w := by
  refine (bu (ls'' := [none, none]) (st' := []) bf31_19 bf31_22 rfl rfl).trans ?_
  rfl
theorem bk31_37 {w : am_Wd} {l1 : Int32} {s0 : Nat} : am_run 31 37 [none, some (.int l1)] [.ref s0] w = (am_rq w s0 l1).bind fun v => am_run 31 39 [none, none] (v :: []) w := by
  refine (bu (ls'' := [none, none]) (st' := [.int l1, .ref s0]) bf31_37 bf31_38 rfl rfl).trans ?_
  exact bh bf31_38 bf31_39 rfl (fun _ _ => am_ge_rf w) rfl
theorem bk31_39 {w : am_Wd} {s0 : Nat} : am_run 31 39 [none, none] [.ref s0] w = some (.inl (some (.ref s0)), w) := by
  exact am_e2 bf31_39 rfl (am_ge_rf w)
-- bk31_39a: null answered
theorem bf32_0 : am_fetch (am_mth 32) 0 = some (.aload_n 1, 1, [], []) := by decide +kernel
theorem bf32_1 : am_fetch (am_mth 32) 1 = some (.dup, 1, [], []) := by decide +kernel
theorem bf32_2 : am_fetch (am_mth 32) 2 = some (.getfield 355, 3, [1, 6, 6, 311], []) := by decide +kernel
theorem bf32_5 : am_fetch (am_mth 32) 5 = some (.iconst 1, 1, [], []) := by decide +kernel
theorem bf32_6 : am_fetch (am_mth 32) 6 = some (.iadd, 1, [], []) := by decide +kernel
theorem bf32_7 : am_fetch (am_mth 32) 7 = some (.putfield 355, 3, [1, 6, 6, 311], []) := by decide +kernel
theorem bf32_10 : am_fetch (am_mth 32) 10 = some (.aload_n 1, 1, [], []) := by decide +kernel
theorem bf32_11 : am_fetch (am_mth 32) 11 = some (.dup, 1, [], [1]) := by decide +kernel
theorem bf32_12 : am_fetch (am_mth 32) 12 = some (.getfield 158, 3, [1, 6, 4, 308], [1]) := by decide +kernel
theorem bf32_15 : am_fetch (am_mth 32) 15 = some (.iconst 1, 1, [], [1]) := by decide +kernel
theorem bf32_16 : am_fetch (am_mth 32) 16 = some (.isub, 1, [], [1]) := by decide +kernel
theorem bf32_17 : am_fetch (am_mth 32) 17 = some (.putfield 158, 3, [1, 6, 4, 308], [1]) := by decide +kernel
theorem bf32_20 : am_fetch (am_mth 32) 20 = some (.aload_n 0, 1, [], [1]) := by decide +kernel
theorem bf32_21 : am_fetch (am_mth 32) 21 = some (.dup, 1, [], [0, 1]) := by decide +kernel
theorem bf32_22 : am_fetch (am_mth 32) 22 = some (.getfield 192, 3, [0, 8, 3, 66], [0, 1]) := by decide +kernel
theorem bf32_25 : am_fetch (am_mth 32) 25 = some (.iconst 1, 1, [], [0, 1]) := by decide +kernel
theorem bf32_26 : am_fetch (am_mth 32) 26 = some (.iadd, 1, [], [0, 1]) := by decide +kernel
theorem bf32_27 : am_fetch (am_mth 32) 27 = some (.putfield 192, 3, [0, 8, 3, 66], [0, 1]) := by decide +kernel
theorem bf32_30 : am_fetch (am_mth 32) 30 = some (.return_, 1, [], [0, 1]) := by decide +kernel
theorem bk32_0 {w : am_Wd} {l0 : Nat} {l1 : Nat} : am_run 32 0 [some (.ref l0), some (.ref l1)] [] w = (am_gf w l1 6 6).bind fun v => am_run 32 5 [some (.ref l0), some (.ref l1)] (v :: [.ref l1]) w := by
  refine (bu (ls'' := [some (.ref l0), some (.ref l1)]) (st' := [.ref l1]) bf32_0 bf32_1 rfl rfl).trans ?_
  refine (bu (ls'' := [some (.ref l0), some (.ref l1)]) (st' := [.ref l1, .ref l1]) bf32_1 bf32_2 rfl rfl).trans ?_
  exact bh bf32_2 bf32_5 rfl (fun _ _ => am_ge_rf w) rfl
theorem bk32_5 {w : am_Wd} {l0 : Nat} {l1 : Nat} {s0 : Int32} {s1 : Nat} : am_run 32 5 [some (.ref l0), some (.ref l1)] [.int s0, .ref s1] w = (am_pf w s1 6 6 (.int (s0 + (nI 1)))).bind fun w' => am_run 32 10 [some (.ref l0), some (.ref l1)] [] w' := by
  refine (bu (ls'' := [some (.ref l0), some (.ref l1)]) (st' := [.int (nI 1), .int s0, .ref s1]) bf32_5 bf32_6 rfl rfl).trans ?_
  refine (bu (ls'' := [some (.ref l0), some (.ref l1)]) (st' := [.int (s0 + (nI 1)), .ref s1]) bf32_6 bf32_7 rfl rfl).trans ?_
  exact bh bf32_7 bf32_10 rfl (bge_pf) rfl
theorem bk32_10 {w : am_Wd} {l0 : Nat} {l1 : Nat} : am_run 32 10 [some (.ref l0), some (.ref l1)] [] w = (am_gf w l1 6 4).bind fun v => am_run 32 15 [some (.ref l0), none] (v :: [.ref l1]) w := by
  refine (bu (ls'' := [some (.ref l0), none]) (st' := [.ref l1]) bf32_10 bf32_11 rfl rfl).trans ?_
  refine (bu (ls'' := [some (.ref l0), none]) (st' := [.ref l1, .ref l1]) bf32_11 bf32_12 rfl rfl).trans ?_
  exact bh bf32_12 bf32_15 rfl (fun _ _ => am_ge_rf w) rfl
theorem bk32_15 {w : am_Wd} {l0 : Nat} {s0 : Int32} {s1 : Nat} : am_run 32 15 [some (.ref l0), none] [.int s0, .ref s1] w = (am_pf w s1 6 4 (.int (s0 - (nI 1)))).bind fun w' => am_run 32 20 [some (.ref l0), none] [] w' := by
  refine (bu (ls'' := [some (.ref l0), none]) (st' := [.int (nI 1), .int s0, .ref s1]) bf32_15 bf32_16 rfl rfl).trans ?_
  refine (bu (ls'' := [some (.ref l0), none]) (st' := [.int (s0 - (nI 1)), .ref s1]) bf32_16 bf32_17 rfl rfl).trans ?_
  exact bh bf32_17 bf32_20 rfl (bge_pf) rfl
theorem bk32_20 {w : am_Wd} {l0 : Nat} : am_run 32 20 [some (.ref l0), none] [] w = (am_gf w l0 8 3).bind fun v => am_run 32 25 [none, none] (v :: [.ref l0]) w := by
  refine (bu (ls'' := [none, none]) (st' := [.ref l0]) bf32_20 bf32_21 rfl rfl).trans ?_
  refine (bu (ls'' := [none, none]) (st' := [.ref l0, .ref l0]) bf32_21 bf32_22 rfl rfl).trans ?_
  exact bh bf32_22 bf32_25 rfl (fun _ _ => am_ge_rf w) rfl
theorem bk32_25 {w : am_Wd} {s0 : Int32} {s1 : Nat} : am_run 32 25 [none, none] [.int s0, .ref s1] w = (am_pf w s1 8 3 (.int (s0 + (nI 1)))).bind fun w' => am_run 32 30 [none, none] [] w' := by
  refine (bu (ls'' := [none, none]) (st' := [.int (nI 1), .int s0, .ref s1]) bf32_25 bf32_26 rfl rfl).trans ?_
  refine (bu (ls'' := [none, none]) (st' := [.int (s0 + (nI 1)), .ref s1]) bf32_26 bf32_27 rfl rfl).trans ?_
  exact bh bf32_27 bf32_30 rfl (bge_pf) rfl
theorem bk32_30 {w : am_Wd}  : am_run 32 30 [none, none] [] w = some (.inl none, w) := by
  exact am_e2 bf32_30 rfl (am_ge_rf w)
theorem bf33_0 : am_fetch (am_mth 33) 0 = some (.aload_n 0, 1, [], []) := by decide +kernel
theorem bf33_1 : am_fetch (am_mth 33) 1 = some (.getfield 192, 3, [0, 8, 3, 66], [0]) := by decide +kernel
theorem bf33_4 : am_fetch (am_mth 33) 4 = some (.bipush 60, 2, [], [0]) := by decide +kernel
theorem bf33_6 : am_fetch (am_mth 33) 6 = some (.idiv, 1, [], [0]) := by decide +kernel
theorem bf33_7 : am_fetch (am_mth 33) 7 = some (.bipush 24, 2, [], [0]) := by decide +kernel
theorem bf33_9 : am_fetch (am_mth 33) 9 = some (.irem, 1, [], [0]) := by decide +kernel
theorem bf33_10 : am_fetch (am_mth 33) 10 = some (.ireturn, 1, [0], [0]) := by decide +kernel
theorem bk33_0 {w : am_Wd} {l0 : Nat} : am_run 33 0 [some (.ref l0)] [] w = (am_gf w l0 8 3).bind fun v => am_run 33 4 [none] (v :: []) w := by
  refine (bu (ls'' := [none]) (st' := [.ref l0]) bf33_0 bf33_1 rfl rfl).trans ?_
  exact bh bf33_1 bf33_4 rfl (fun _ _ => am_ge_rf w) rfl
theorem bk33_4 {w : am_Wd} {s0 : Int32} : am_run 33 4 [none] [.int s0] w = some (.inl (some (.int (bj_irem (s0 / (nI 60)) (nI 24)))), w) := by
  refine (bu (ls'' := [none]) (st' := [.int (nI 60), .int s0]) bf33_4 bf33_6 rfl rfl).trans ?_
  refine (bu (ls'' := [none]) (st' := [.int (s0 / (nI 60))]) bf33_6 bf33_7 rfl rfl).trans ?_
  refine (bu (ls'' := [none]) (st' := [.int (nI 24), .int (s0 / (nI 60))]) bf33_7 bf33_9 rfl rfl).trans ?_
  refine (bu (ls'' := [none]) (st' := [.int (bj_irem (s0 / (nI 60)) (nI 24))]) bf33_9 bf33_10 rfl rfl).trans ?_
  exact am_e2 bf33_10 rfl (am_ge_rf w)
theorem bf50_0 : am_fetch (am_mth 50) 0 = some (.lload_n 0, 1, [], [1]) := by decide +kernel
theorem bf50_1 : am_fetch (am_mth 50) 1 = some (.lload_n 0, 1, [], [1]) := by decide +kernel
theorem bf50_2 : am_fetch (am_mth 50) 2 = some (.iconst 1, 1, [], [0, 1]) := by decide +kernel
theorem bf50_3 : am_fetch (am_mth 50) 3 = some (.lushr, 1, [], [0, 1]) := by decide +kernel
theorem bf50_4 : am_fetch (am_mth 50) 4 = some (.ldc2_w 314, 3, [0, 6148914691236517205, 227], [0, 1]) := by decide +kernel
theorem bf50_7 : am_fetch (am_mth 50) 7 = some (.land, 1, [], [0, 1]) := by decide +kernel
theorem bf50_8 : am_fetch (am_mth 50) 8 = some (.lsub, 1, [], [0, 1]) := by decide +kernel
theorem bf50_9 : am_fetch (am_mth 50) 9 = some (.lstore_n 0, 1, [], [0, 1]) := by decide +kernel
theorem bf50_10 : am_fetch (am_mth 50) 10 = some (.lload_n 0, 1, [], [1]) := by decide +kernel
theorem bf50_11 : am_fetch (am_mth 50) 11 = some (.ldc2_w 316, 3, [0, 3689348814741910323, 228], [1]) := by decide +kernel
theorem bf50_14 : am_fetch (am_mth 50) 14 = some (.land, 1, [], [1]) := by decide +kernel
theorem bf50_15 : am_fetch (am_mth 50) 15 = some (.lload_n 0, 1, [], [1]) := by decide +kernel
theorem bf50_16 : am_fetch (am_mth 50) 16 = some (.iconst 2, 1, [], [0, 1]) := by decide +kernel
theorem bf50_17 : am_fetch (am_mth 50) 17 = some (.lushr, 1, [], [0, 1]) := by decide +kernel
theorem bf50_18 : am_fetch (am_mth 50) 18 = some (.ldc2_w 316, 3, [0, 3689348814741910323, 228], [0, 1]) := by decide +kernel
theorem bf50_21 : am_fetch (am_mth 50) 21 = some (.land, 1, [], [0, 1]) := by decide +kernel
theorem bf50_22 : am_fetch (am_mth 50) 22 = some (.ladd, 1, [], [0, 1]) := by decide +kernel
theorem bf50_23 : am_fetch (am_mth 50) 23 = some (.lstore_n 0, 1, [], [0, 1]) := by decide +kernel
theorem bf50_24 : am_fetch (am_mth 50) 24 = some (.lload_n 0, 1, [], [1]) := by decide +kernel
theorem bf50_25 : am_fetch (am_mth 50) 25 = some (.lload_n 0, 1, [], [1]) := by decide +kernel
theorem bf50_26 : am_fetch (am_mth 50) 26 = some (.iconst 4, 1, [], [0, 1]) := by decide +kernel
theorem bf50_27 : am_fetch (am_mth 50) 27 = some (.lushr, 1, [], [0, 1]) := by decide +kernel
theorem bf50_28 : am_fetch (am_mth 50) 28 = some (.ladd, 1, [], [0, 1]) := by decide +kernel
theorem bf50_29 : am_fetch (am_mth 50) 29 = some (.ldc2_w 318, 3, [0, 1085102592571150095, 229], [0, 1]) := by decide +kernel
theorem bf50_32 : am_fetch (am_mth 50) 32 = some (.land, 1, [], [0, 1]) := by decide +kernel
theorem bf50_33 : am_fetch (am_mth 50) 33 = some (.lstore_n 0, 1, [], [0, 1]) := by decide +kernel
theorem bf50_34 : am_fetch (am_mth 50) 34 = some (.lload_n 0, 1, [], [1]) := by decide +kernel
theorem bf50_35 : am_fetch (am_mth 50) 35 = some (.lload_n 0, 1, [], [1]) := by decide +kernel
theorem bf50_36 : am_fetch (am_mth 50) 36 = some (.bipush 8, 2, [], [0, 1]) := by decide +kernel
theorem bf50_38 : am_fetch (am_mth 50) 38 = some (.lushr, 1, [], [0, 1]) := by decide +kernel
theorem bf50_39 : am_fetch (am_mth 50) 39 = some (.ladd, 1, [], [0, 1]) := by decide +kernel
theorem bf50_40 : am_fetch (am_mth 50) 40 = some (.lstore_n 0, 1, [], [0, 1]) := by decide +kernel
theorem bf50_41 : am_fetch (am_mth 50) 41 = some (.lload_n 0, 1, [], [1]) := by decide +kernel
theorem bf50_42 : am_fetch (am_mth 50) 42 = some (.lload_n 0, 1, [], [1]) := by decide +kernel
theorem bf50_43 : am_fetch (am_mth 50) 43 = some (.bipush 16, 2, [], [0, 1]) := by decide +kernel
theorem bf50_45 : am_fetch (am_mth 50) 45 = some (.lushr, 1, [], [0, 1]) := by decide +kernel
theorem bf50_46 : am_fetch (am_mth 50) 46 = some (.ladd, 1, [], [0, 1]) := by decide +kernel
theorem bf50_47 : am_fetch (am_mth 50) 47 = some (.lstore_n 0, 1, [], [0, 1]) := by decide +kernel
theorem bf50_48 : am_fetch (am_mth 50) 48 = some (.lload_n 0, 1, [], [1]) := by decide +kernel
theorem bf50_49 : am_fetch (am_mth 50) 49 = some (.lload_n 0, 1, [], [1]) := by decide +kernel
theorem bf50_50 : am_fetch (am_mth 50) 50 = some (.bipush 32, 2, [], [0, 1]) := by decide +kernel
theorem bf50_52 : am_fetch (am_mth 50) 52 = some (.lushr, 1, [], [0, 1]) := by decide +kernel
theorem bf50_53 : am_fetch (am_mth 50) 53 = some (.ladd, 1, [], [0, 1]) := by decide +kernel
theorem bf50_54 : am_fetch (am_mth 50) 54 = some (.lstore_n 0, 1, [], [0, 1]) := by decide +kernel
theorem bf50_55 : am_fetch (am_mth 50) 55 = some (.lload_n 0, 1, [], [1]) := by decide +kernel
theorem bf50_56 : am_fetch (am_mth 50) 56 = some (.l2i, 1, [], [0, 1]) := by decide +kernel
theorem bf50_57 : am_fetch (am_mth 50) 57 = some (.bipush 127, 2, [], [0, 1]) := by decide +kernel
theorem bf50_59 : am_fetch (am_mth 50) 59 = some (.iand, 1, [], [0, 1]) := by decide +kernel
theorem bf50_60 : am_fetch (am_mth 50) 60 = some (.ireturn, 1, [0], [0, 1]) := by decide +kernel
theorem bk50_0 {w : am_Wd} {l0 : Int64} : am_run 50 0 [some (.long l0), none] [] w = am_run 50 10 [some (.long (l0 - ((bj_lushr l0 (nI 1)) &&& (lN 6148914691236517205)))), none] [] w := by
  refine (bu (ls'' := [some (.long l0), none]) (st' := [.long l0]) bf50_0 bf50_1 rfl rfl).trans ?_
  refine (bu (ls'' := [none, none]) (st' := [.long l0, .long l0]) bf50_1 bf50_2 rfl rfl).trans ?_
  refine (bu (ls'' := [none, none]) (st' := [.int (nI 1), .long l0, .long l0]) bf50_2 bf50_3 rfl rfl).trans ?_
  refine (bu (ls'' := [none, none]) (st' := [.long (bj_lushr l0 (nI 1)), .long l0]) bf50_3 bf50_4 rfl rfl).trans ?_
  refine (bu (ls'' := [none, none]) (st' := [.long (lN 6148914691236517205), .long (bj_lushr l0 (nI 1)), .long l0]) bf50_4 bf50_7 rfl rfl).trans ?_
  refine (bu (ls'' := [none, none]) (st' := [.long ((bj_lushr l0 (nI 1)) &&& (lN 6148914691236517205)), .long l0]) bf50_7 bf50_8 rfl rfl).trans ?_
  refine (bu (ls'' := [none, none]) (st' := [.long (l0 - ((bj_lushr l0 (nI 1)) &&& (lN 6148914691236517205)))]) bf50_8 bf50_9 rfl rfl).trans ?_
  refine (bu (ls'' := [some (.long (l0 - ((bj_lushr l0 (nI 1)) &&& (lN 6148914691236517205)))), none]) (st' := []) bf50_9 bf50_10 rfl rfl).trans ?_
  rfl
theorem bk50_10 {w : am_Wd} {l0 : Int64} : am_run 50 10 [some (.long l0), none] [] w = am_run 50 24 [some (.long ((l0 &&& (lN 3689348814741910323)) + ((bj_lushr l0 (nI 2)) &&& (lN 3689348814741910323)))), none] [] w := by
  refine (bu (ls'' := [some (.long l0), none]) (st' := [.long l0]) bf50_10 bf50_11 rfl rfl).trans ?_
  refine (bu (ls'' := [some (.long l0), none]) (st' := [.long (lN 3689348814741910323), .long l0]) bf50_11 bf50_14 rfl rfl).trans ?_
  refine (bu (ls'' := [some (.long l0), none]) (st' := [.long (l0 &&& (lN 3689348814741910323))]) bf50_14 bf50_15 rfl rfl).trans ?_
  refine (bu (ls'' := [none, none]) (st' := [.long l0, .long (l0 &&& (lN 3689348814741910323))]) bf50_15 bf50_16 rfl rfl).trans ?_
  refine (bu (ls'' := [none, none]) (st' := [.int (nI 2), .long l0, .long (l0 &&& (lN 3689348814741910323))]) bf50_16 bf50_17 rfl rfl).trans ?_
  refine (bu (ls'' := [none, none]) (st' := [.long (bj_lushr l0 (nI 2)), .long (l0 &&& (lN 3689348814741910323))]) bf50_17 bf50_18 rfl rfl).trans ?_
  refine (bu (ls'' := [none, none]) (st' := [.long (lN 3689348814741910323), .long (bj_lushr l0 (nI 2)), .long (l0 &&& (lN 3689348814741910323))]) bf50_18 bf50_21 rfl rfl).trans ?_
  refine (bu (ls'' := [none, none]) (st' := [.long ((bj_lushr l0 (nI 2)) &&& (lN 3689348814741910323)), .long (l0 &&& (lN 3689348814741910323))]) bf50_21 bf50_22 rfl rfl).trans ?_
  refine (bu (ls'' := [none, none]) (st' := [.long ((l0 &&& (lN 3689348814741910323)) + ((bj_lushr l0 (nI 2)) &&& (lN 3689348814741910323)))]) bf50_22 bf50_23 rfl rfl).trans ?_
  refine (bu (ls'' := [some (.long ((l0 &&& (lN 3689348814741910323)) + ((bj_lushr l0 (nI 2)) &&& (lN 3689348814741910323)))), none]) (st' := []) bf50_23 bf50_24 rfl rfl).trans ?_
  rfl
theorem bk50_24 {w : am_Wd} {l0 : Int64} : am_run 50 24 [some (.long l0), none] [] w = am_run 50 34 [some (.long ((l0 + (bj_lushr l0 (nI 4))) &&& (lN 1085102592571150095))), none] [] w := by
  refine (bu (ls'' := [some (.long l0), none]) (st' := [.long l0]) bf50_24 bf50_25 rfl rfl).trans ?_
  refine (bu (ls'' := [none, none]) (st' := [.long l0, .long l0]) bf50_25 bf50_26 rfl rfl).trans ?_
  refine (bu (ls'' := [none, none]) (st' := [.int (nI 4), .long l0, .long l0]) bf50_26 bf50_27 rfl rfl).trans ?_
  refine (bu (ls'' := [none, none]) (st' := [.long (bj_lushr l0 (nI 4)), .long l0]) bf50_27 bf50_28 rfl rfl).trans ?_
  refine (bu (ls'' := [none, none]) (st' := [.long (l0 + (bj_lushr l0 (nI 4)))]) bf50_28 bf50_29 rfl rfl).trans ?_
  refine (bu (ls'' := [none, none]) (st' := [.long (lN 1085102592571150095), .long (l0 + (bj_lushr l0 (nI 4)))]) bf50_29 bf50_32 rfl rfl).trans ?_
  refine (bu (ls'' := [none, none]) (st' := [.long ((l0 + (bj_lushr l0 (nI 4))) &&& (lN 1085102592571150095))]) bf50_32 bf50_33 rfl rfl).trans ?_
  refine (bu (ls'' := [some (.long ((l0 + (bj_lushr l0 (nI 4))) &&& (lN 1085102592571150095))), none]) (st' := []) bf50_33 bf50_34 rfl rfl).trans ?_
  rfl
theorem bk50_34 {w : am_Wd} {l0 : Int64} : am_run 50 34 [some (.long l0), none] [] w = am_run 50 41 [some (.long (l0 + (bj_lushr l0 (nI 8)))), none] [] w := by
  refine (bu (ls'' := [some (.long l0), none]) (st' := [.long l0]) bf50_34 bf50_35 rfl rfl).trans ?_
  refine (bu (ls'' := [none, none]) (st' := [.long l0, .long l0]) bf50_35 bf50_36 rfl rfl).trans ?_
  refine (bu (ls'' := [none, none]) (st' := [.int (nI 8), .long l0, .long l0]) bf50_36 bf50_38 rfl rfl).trans ?_
  refine (bu (ls'' := [none, none]) (st' := [.long (bj_lushr l0 (nI 8)), .long l0]) bf50_38 bf50_39 rfl rfl).trans ?_
  refine (bu (ls'' := [none, none]) (st' := [.long (l0 + (bj_lushr l0 (nI 8)))]) bf50_39 bf50_40 rfl rfl).trans ?_
  refine (bu (ls'' := [some (.long (l0 + (bj_lushr l0 (nI 8)))), none]) (st' := []) bf50_40 bf50_41 rfl rfl).trans ?_
  rfl
theorem bk50_41 {w : am_Wd} {l0 : Int64} : am_run 50 41 [some (.long l0), none] [] w = am_run 50 48 [some (.long (l0 + (bj_lushr l0 (nI 16)))), none] [] w := by
  refine (bu (ls'' := [some (.long l0), none]) (st' := [.long l0]) bf50_41 bf50_42 rfl rfl).trans ?_
  refine (bu (ls'' := [none, none]) (st' := [.long l0, .long l0]) bf50_42 bf50_43 rfl rfl).trans ?_
  refine (bu (ls'' := [none, none]) (st' := [.int (nI 16), .long l0, .long l0]) bf50_43 bf50_45 rfl rfl).trans ?_
  refine (bu (ls'' := [none, none]) (st' := [.long (bj_lushr l0 (nI 16)), .long l0]) bf50_45 bf50_46 rfl rfl).trans ?_
  refine (bu (ls'' := [none, none]) (st' := [.long (l0 + (bj_lushr l0 (nI 16)))]) bf50_46 bf50_47 rfl rfl).trans ?_
  refine (bu (ls'' := [some (.long (l0 + (bj_lushr l0 (nI 16)))), none]) (st' := []) bf50_47 bf50_48 rfl rfl).trans ?_
  rfl
theorem bk50_48 {w : am_Wd} {l0 : Int64} : am_run 50 48 [some (.long l0), none] [] w = am_run 50 55 [some (.long (l0 + (bj_lushr l0 (nI 32)))), none] [] w := by
  refine (bu (ls'' := [some (.long l0), none]) (st' := [.long l0]) bf50_48 bf50_49 rfl rfl).trans ?_
  refine (bu (ls'' := [none, none]) (st' := [.long l0, .long l0]) bf50_49 bf50_50 rfl rfl).trans ?_
  refine (bu (ls'' := [none, none]) (st' := [.int (nI 32), .long l0, .long l0]) bf50_50 bf50_52 rfl rfl).trans ?_
  refine (bu (ls'' := [none, none]) (st' := [.long (bj_lushr l0 (nI 32)), .long l0]) bf50_52 bf50_53 rfl rfl).trans ?_
  refine (bu (ls'' := [none, none]) (st' := [.long (l0 + (bj_lushr l0 (nI 32)))]) bf50_53 bf50_54 rfl rfl).trans ?_
  refine (bu (ls'' := [some (.long (l0 + (bj_lushr l0 (nI 32)))), none]) (st' := []) bf50_54 bf50_55 rfl rfl).trans ?_
  rfl
theorem bk50_55 {w : am_Wd} {l0 : Int64} : am_run 50 55 [some (.long l0), none] [] w = some (.inl (some (.int ((Int64.toInt32 l0) &&& (nI 127)))), w) := by
  refine (bu (ls'' := [none, none]) (st' := [.long l0]) bf50_55 bf50_56 rfl rfl).trans ?_
  refine (bu (ls'' := [none, none]) (st' := [.int (Int64.toInt32 l0)]) bf50_56 bf50_57 rfl rfl).trans ?_
  refine (bu (ls'' := [none, none]) (st' := [.int (nI 127), .int (Int64.toInt32 l0)]) bf50_57 bf50_59 rfl rfl).trans ?_
  refine (bu (ls'' := [none, none]) (st' := [.int ((Int64.toInt32 l0) &&& (nI 127))]) bf50_59 bf50_60 rfl rfl).trans ?_
  exact am_e2 bf50_60 rfl (am_ge_rf w)
theorem bf72_0 : am_fetch (am_mth 72) 0 = some (.iconst 0, 1, [], [1, 2]) := by decide +kernel
theorem bf72_1 : am_fetch (am_mth 72) 1 = some (.istore_n 1, 1, [], [1, 2]) := by decide +kernel
theorem bf72_2 : am_fetch (am_mth 72) 2 = some (.iconst 0, 1, [], [2]) := by decide +kernel
theorem bf72_3 : am_fetch (am_mth 72) 3 = some (.istore_n 2, 1, [], [2]) := by decide +kernel
theorem bf72_4 : am_fetch (am_mth 72) 4 = some (.iload_n 2, 1, [], []) := by decide +kernel
theorem bf72_5 : am_fetch (am_mth 72) 5 = some (.iconst 4, 1, [], []) := by decide +kernel
theorem bf72_6 : am_fetch (am_mth 72) 6 = some (.if_icmp .ge 21, 3, [], []) := by decide +kernel
theorem bf72_9 : am_fetch (am_mth 72) 9 = some (.iload_n 1, 1, [], []) := by decide +kernel
theorem bf72_10 : am_fetch (am_mth 72) 10 = some (.aload_n 0, 1, [], [1]) := by decide +kernel
theorem bf72_11 : am_fetch (am_mth 72) 11 = some (.getfield 9, 3, [0, 4, 0, 287], [1]) := by decide +kernel
theorem bf72_14 : am_fetch (am_mth 72) 14 = some (.iload_n 2, 1, [], [1]) := by decide +kernel
theorem bf72_15 : am_fetch (am_mth 72) 15 = some (.laload, 1, [], [1]) := by decide +kernel
theorem bf72_16 : am_fetch (am_mth 72) 16 = some (.invokestatic 19, 3, [0, 50, 1, 381, 225, 26], [1]) := by decide +kernel
theorem bf72_19 : am_fetch (am_mth 72) 19 = some (.iadd, 1, [], [1]) := by decide +kernel
theorem bf72_20 : am_fetch (am_mth 72) 20 = some (.istore_n 1, 1, [], [1]) := by decide +kernel
theorem bf72_21 : am_fetch (am_mth 72) 21 = some (.iinc 2 1, 3, [], []) := by decide +kernel
theorem bf72_24 : am_fetch (am_mth 72) 24 = some (.goto (-20), 3, [], []) := by decide +kernel
theorem bf72_27 : am_fetch (am_mth 72) 27 = some (.iload_n 1, 1, [], [0, 2]) := by decide +kernel
theorem bf72_28 : am_fetch (am_mth 72) 28 = some (.ireturn, 1, [0], [0, 1, 2]) := by decide +kernel
theorem bk72_0 {w : am_Wd} {l0 : Nat} : am_run 72 0 [some (.ref l0), none, none] [] w = am_run 72 4 [some (.ref l0), some (.int (nI 0)), some (.int (nI 0))] [] w := by
  refine (bu (ls'' := [some (.ref l0), none, none]) (st' := [.int (nI 0)]) bf72_0 bf72_1 rfl rfl).trans ?_
  refine (bu (ls'' := [some (.ref l0), some (.int (nI 0)), none]) (st' := []) bf72_1 bf72_2 rfl rfl).trans ?_
  refine (bu (ls'' := [some (.ref l0), some (.int (nI 0)), none]) (st' := [.int (nI 0)]) bf72_2 bf72_3 rfl rfl).trans ?_
  refine (bu (ls'' := [some (.ref l0), some (.int (nI 0)), some (.int (nI 0))]) (st' := []) bf72_3 bf72_4 rfl rfl).trans ?_
  rfl
theorem bk72_4 {w : am_Wd} {l0 : Nat} {l1 : Int32} {l2 : Int32} : am_run 72 4 [some (.ref l0), some (.int l1), some (.int l2)] [] w = if (nI 4) ≤ l2 then am_run 72 27 [none, some (.int l1), none] [] w else am_run 72 9 [some (.ref l0), some (.int l1), some (.int l2)] [] w := by
  refine (bu (ls'' := [some (.ref l0), some (.int l1), some (.int l2)]) (st' := [.int l2]) bf72_4 bf72_5 rfl rfl).trans ?_
  refine (bu (ls'' := [some (.ref l0), some (.int l1), some (.int l2)]) (st' := [.int (nI 4), .int l2]) bf72_5 bf72_6 rfl rfl).trans ?_
  exact bic bf72_6 rfl bf72_27 bf72_9 rfl rfl rfl
theorem bk72_27 {w : am_Wd} {l1 : Int32} : am_run 72 27 [none, some (.int l1), none] [] w = some (.inl (some (.int l1)), w) := by
  refine (bu (ls'' := [none, none, none]) (st' := [.int l1]) bf72_27 bf72_28 rfl rfl).trans ?_
  exact am_e2 bf72_28 rfl (am_ge_rf w)
theorem bk72_9 {w : am_Wd} {l0 : Nat} {l1 : Int32} {l2 : Int32} : am_run 72 9 [some (.ref l0), some (.int l1), some (.int l2)] [] w = (am_gf w l0 4 0).bind fun v => am_run 72 14 [some (.ref l0), none, some (.int l2)] (v :: [.int l1]) w := by
  refine (bu (ls'' := [some (.ref l0), none, some (.int l2)]) (st' := [.int l1]) bf72_9 bf72_10 rfl rfl).trans ?_
  refine (bu (ls'' := [some (.ref l0), none, some (.int l2)]) (st' := [.ref l0, .int l1]) bf72_10 bf72_11 rfl rfl).trans ?_
  exact bh bf72_11 bf72_14 rfl (fun _ _ => am_ge_rf w) rfl
theorem bk72_14 {w : am_Wd} {l0 : Nat} {l2 : Int32} {s0 : Nat} {s1 : Int32} : am_run 72 14 [some (.ref l0), none, some (.int l2)] [.ref s0, .int s1] w = (am_rl w s0 l2).bind fun v => am_run 72 16 [some (.ref l0), none, some (.int l2)] (.long v :: [.int s1]) w := by
  refine (bu (ls'' := [some (.ref l0), none, some (.int l2)]) (st' := [.int l2, .ref s0, .int s1]) bf72_14 bf72_15 rfl rfl).trans ?_
  exact bh bf72_15 bf72_16 rfl (fun _ _ => am_ge_rf w) rfl
theorem bk72_16 {w : am_Wd} {l0 : Nat} {l2 : Int32} {s0 : Int64} {s1 : Int32} : am_run 72 16 [some (.ref l0), none, some (.int l2)] [.long s0, .int s1] w = (am_x 50 [.long s0] w).bind fun r => bct r fun v w' => am_run 72 19 [some (.ref l0), none, some (.int l2)] (v.toList ++ [.int s1]) w' := by
  exact bkS bf72_16 bf72_19 rfl (by decide +kernel) (Nat.le_of_ble_eq_true rfl) rfl (bhd rfl)
theorem bk72_19 {w : am_Wd} {l0 : Nat} {l2 : Int32} {s0 : Int32} {s1 : Int32} : am_run 72 19 [some (.ref l0), none, some (.int l2)] [.int s0, .int s1] w = am_run 72 4 [some (.ref l0), some (.int (s1 + s0)), some (.int (l2 + (nI 1)))] [] w := by
  refine (bu (ls'' := [some (.ref l0), none, some (.int l2)]) (st' := [.int (s1 + s0)]) bf72_19 bf72_20 rfl rfl).trans ?_
  refine (bu (ls'' := [some (.ref l0), some (.int (s1 + s0)), some (.int l2)]) (st' := []) bf72_20 bf72_21 rfl rfl).trans ?_
  refine (bu (ls'' := [some (.ref l0), some (.int (s1 + s0)), some (.int (l2 + (nI 1)))]) (st' := []) bf72_21 bf72_24 rfl rfl).trans ?_
  refine (bu (ls'' := [some (.ref l0), some (.int (s1 + s0)), some (.int (l2 + (nI 1)))]) (st' := []) bf72_24 bf72_4 rfl rfl).trans ?_
  rfl
theorem bf73_0 : am_fetch (am_mth 73) 0 = some (.aload_n 0, 1, [], []) := by decide +kernel
theorem bf73_1 : am_fetch (am_mth 73) 1 = some (.getfield 9, 3, [0, 4, 0, 287], [0]) := by decide +kernel
theorem bf73_4 : am_fetch (am_mth 73) 4 = some (.iload_n 1, 1, [], [0]) := by decide +kernel
theorem bf73_5 : am_fetch (am_mth 73) 5 = some (.iconst 3, 1, [], [0]) := by decide +kernel
theorem bf73_6 : am_fetch (am_mth 73) 6 = some (.iand, 1, [], [0]) := by decide +kernel
theorem bf73_7 : am_fetch (am_mth 73) 7 = some (.laload, 1, [], [0]) := by decide +kernel
theorem bf73_8 : am_fetch (am_mth 73) 8 = some (.iload_n 1, 1, [], [0]) := by decide +kernel
theorem bf73_9 : am_fetch (am_mth 73) 9 = some (.iconst 4, 1, [], [0, 1]) := by decide +kernel
theorem bf73_10 : am_fetch (am_mth 73) 10 = some (.idiv, 1, [], [0, 1]) := by decide +kernel
theorem bf73_11 : am_fetch (am_mth 73) 11 = some (.invokestatic 25, 3, [0, 11, 2, 505, 361, 23], [0, 1]) := by decide +kernel
theorem bf73_14 : am_fetch (am_mth 73) 14 = some (.ireturn, 1, [1], [0, 1]) := by decide +kernel
theorem bk73_0 {w : am_Wd} {l0 : Nat} {l1 : Int32} : am_run 73 0 [some (.ref l0), some (.int l1)] [] w = (am_gf w l0 4 0).bind fun v => am_run 73 4 [none, some (.int l1)] (v :: []) w := by
  refine (bu (ls'' := [none, some (.int l1)]) (st' := [.ref l0]) bf73_0 bf73_1 rfl rfl).trans ?_
  exact bh bf73_1 bf73_4 rfl (fun _ _ => am_ge_rf w) rfl
theorem bk73_4 {w : am_Wd} {l1 : Int32} {s0 : Nat} : am_run 73 4 [none, some (.int l1)] [.ref s0] w = (am_rl w s0 (l1 &&& (nI 3))).bind fun v => am_run 73 8 [none, some (.int l1)] (.long v :: []) w := by
  refine (bu (ls'' := [none, some (.int l1)]) (st' := [.int l1, .ref s0]) bf73_4 bf73_5 rfl rfl).trans ?_
  refine (bu (ls'' := [none, some (.int l1)]) (st' := [.int (nI 3), .int l1, .ref s0]) bf73_5 bf73_6 rfl rfl).trans ?_
  refine (bu (ls'' := [none, some (.int l1)]) (st' := [.int (l1 &&& (nI 3)), .ref s0]) bf73_6 bf73_7 rfl rfl).trans ?_
  exact bh bf73_7 bf73_8 rfl (fun _ _ => am_ge_rf w) rfl
theorem bk73_8 {w : am_Wd} {l1 : Int32} {s0 : Int64} : am_run 73 8 [none, some (.int l1)] [.long s0] w = (am_x 11 [.long s0, .int (l1 / (nI 4))] w).bind fun r => bct r fun v w' => am_run 73 14 [none, none] (v.toList ++ []) w' := by
  refine (bu (ls'' := [none, none]) (st' := [.int l1, .long s0]) bf73_8 bf73_9 rfl rfl).trans ?_
  refine (bu (ls'' := [none, none]) (st' := [.int (nI 4), .int l1, .long s0]) bf73_9 bf73_10 rfl rfl).trans ?_
  refine (bu (ls'' := [none, none]) (st' := [.int (l1 / (nI 4)), .long s0]) bf73_10 bf73_11 rfl rfl).trans ?_
  exact bkS bf73_11 bf73_14 rfl (by decide +kernel) (Nat.le_of_ble_eq_true rfl) rfl (bhd rfl)
theorem bk73_14 {w : am_Wd} {s0 : Int32} (hb : am_ok (am_rt 1) (.int s0) = true) : am_run 73 14 [none, none] [.int s0] w = some (.inl (some (.int s0)), w) := by
  exact am_e2 bf73_14 (by unfold am_stp; exact if_pos ⟨by decide, hb⟩) (am_ge_rf w)
theorem bf74_0 : am_fetch (am_mth 74) 0 = some (.aload_n 0, 1, [], [4, 5]) := by decide +kernel
theorem bf74_1 : am_fetch (am_mth 74) 1 = some (.getfield 9, 3, [0, 4, 0, 287], [0, 4, 5]) := by decide +kernel
theorem bf74_4 : am_fetch (am_mth 74) 4 = some (.iload_n 1, 1, [], [0, 4, 5]) := by decide +kernel
theorem bf74_5 : am_fetch (am_mth 74) 5 = some (.laload, 1, [], [0, 4, 5]) := by decide +kernel
theorem bf74_6 : am_fetch (am_mth 74) 6 = some (.aload_n 3, 1, [], [0, 4, 5]) := by decide +kernel
theorem bf74_7 : am_fetch (am_mth 74) 7 = some (.iload_n 1, 1, [], [0, 3, 4, 5]) := by decide +kernel
theorem bf74_8 : am_fetch (am_mth 74) 8 = some (.iload_n 2, 1, [], [0, 3, 4, 5]) := by decide +kernel
theorem bf74_9 : am_fetch (am_mth 74) 9 = some (.invokevirtual 33, 3, [0, 21, 2, 7, 432, 433, 434, 29], [0, 3, 4, 5]) := by decide +kernel
theorem bf74_12 : am_fetch (am_mth 74) 12 = some (.land, 1, [], [0, 3, 4, 5]) := by decide +kernel
theorem bf74_13 : am_fetch (am_mth 74) 13 = some (.lstore 4, 2, [], [0, 3, 4, 5]) := by decide +kernel
theorem bf74_15 : am_fetch (am_mth 74) 15 = some (.iload_n 2, 1, [], [0, 3, 5]) := by decide +kernel
theorem bf74_16 : am_fetch (am_mth 74) 16 = some (.ifCond .eq 8, 3, [], [0, 2, 3, 5]) := by decide +kernel
theorem bf74_19 : am_fetch (am_mth 74) 19 = some (.lload 4, 2, [], [0, 1, 2, 3, 5]) := by decide +kernel
theorem bf74_21 : am_fetch (am_mth 74) 21 = some (.goto 12, 3, [], [0, 1, 2, 3, 4, 5]) := by decide +kernel
theorem bf74_24 : am_fetch (am_mth 74) 24 = some (.lload 4, 2, [], [0, 2, 3, 5]) := by decide +kernel
theorem bf74_26 : am_fetch (am_mth 74) 26 = some (.lload 4, 2, [], [0, 2, 3, 5]) := by decide +kernel
theorem bf74_28 : am_fetch (am_mth 74) 28 = some (.iload_n 1, 1, [], [0, 2, 3, 4, 5]) := by decide +kernel
theorem bf74_29 : am_fetch (am_mth 74) 29 = some (.invokestatic 39, 3, [0, 14, 2, 438, 439, 23], [0, 1, 2, 3, 4, 5]) := by decide +kernel
theorem bf74_32 : am_fetch (am_mth 74) 32 = some (.lor, 1, [], [0, 1, 2, 3, 4, 5]) := by decide +kernel
theorem bf74_33 : am_fetch (am_mth 74) 33 = some (.lreturn, 1, [], [0, 1, 2, 3, 4, 5]) := by decide +kernel
theorem bk74_0 {w : am_Wd} {l0 : Nat} {l1 : Int32} {l2 : Int32} {l3 : Nat} : am_run 74 0 [some (.ref l0), some (.int l1), some (.int l2), some (.ref l3), none, none] [] w = (am_gf w l0 4 0).bind fun v => am_run 74 4 [none, some (.int l1), some (.int l2), some (.ref l3), none, none] (v :: []) w := by
  refine (bu (ls'' := [none, some (.int l1), some (.int l2), some (.ref l3), none, none]) (st' := [.ref l0]) bf74_0 bf74_1 rfl rfl).trans ?_
  exact bh bf74_1 bf74_4 rfl (fun _ _ => am_ge_rf w) rfl
theorem bk74_4 {w : am_Wd} {l1 : Int32} {l2 : Int32} {l3 : Nat} {s0 : Nat} : am_run 74 4 [none, some (.int l1), some (.int l2), some (.ref l3), none, none] [.ref s0] w = (am_rl w s0 l1).bind fun v => am_run 74 6 [none, some (.int l1), some (.int l2), some (.ref l3), none, none] (.long v :: []) w := by
  refine (bu (ls'' := [none, some (.int l1), some (.int l2), some (.ref l3), none, none]) (st' := [.int l1, .ref s0]) bf74_4 bf74_5 rfl rfl).trans ?_
  exact bh bf74_5 bf74_6 rfl (fun _ _ => am_ge_rf w) rfl
theorem bk74_6 {w : am_Wd} {l1 : Int32} {l2 : Int32} {l3 : Nat} {s0 : Int64} : am_run 74 6 [none, some (.int l1), some (.int l2), some (.ref l3), none, none] [.long s0] w = (am_kf w l3 7).bind fun _ => (am_x 21 [.ref l3, .int l1, .int l2] w).bind fun r => bct r fun v w' => am_run 74 12 [none, some (.int l1), some (.int l2), none, none, none] (v.toList ++ [.long s0]) w' := by
  refine (bu (ls'' := [none, some (.int l1), some (.int l2), none, none, none]) (st' := [.ref l3, .long s0]) bf74_6 bf74_7 rfl rfl).trans ?_
  refine (bu (ls'' := [none, some (.int l1), some (.int l2), none, none, none]) (st' := [.int l1, .ref l3, .long s0]) bf74_7 bf74_8 rfl rfl).trans ?_
  refine (bu (ls'' := [none, some (.int l1), some (.int l2), none, none, none]) (st' := [.int l2, .int l1, .ref l3, .long s0]) bf74_8 bf74_9 rfl rfl).trans ?_
  exact bkV bf74_9 bf74_12 rfl (by decide +kernel) (Nat.le_of_ble_eq_true rfl) rfl (bhd rfl)
theorem bk74_12 {w : am_Wd} {l1 : Int32} {l2 : Int32} {s0 : Int64} {s1 : Int64} : am_run 74 12 [none, some (.int l1), some (.int l2), none, none, none] [.long s0, .long s1] w = if l2 = nI 0 then am_run 74 24 [none, some (.int l1), none, none, some (.long (s1 &&& s0)), none] [] w else am_run 74 19 [none, none, none, none, some (.long (s1 &&& s0)), none] [] w := by
  refine (bu (ls'' := [none, some (.int l1), some (.int l2), none, none, none]) (st' := [.long (s1 &&& s0)]) bf74_12 bf74_13 rfl rfl).trans ?_
  refine (bu (ls'' := [none, some (.int l1), some (.int l2), none, some (.long (s1 &&& s0)), none]) (st' := []) bf74_13 bf74_15 rfl rfl).trans ?_
  refine (bu (ls'' := [none, some (.int l1), none, none, some (.long (s1 &&& s0)), none]) (st' := [.int l2]) bf74_15 bf74_16 rfl rfl).trans ?_
  exact bifc bf74_16 rfl bf74_24 bf74_19 rfl rfl rfl
theorem bk74_24 {w : am_Wd} {l1 : Int32} {l4 : Int64} : am_run 74 24 [none, some (.int l1), none, none, some (.long l4), none] [] w = (am_x 14 [.long l4, .int l1] w).bind fun r => bct r fun v w' => am_run 74 32 [none, none, none, none, none, none] (v.toList ++ [.long l4]) w' := by
  refine (bu (ls'' := [none, some (.int l1), none, none, some (.long l4), none]) (st' := [.long l4]) bf74_24 bf74_26 rfl rfl).trans ?_
  refine (bu (ls'' := [none, some (.int l1), none, none, none, none]) (st' := [.long l4, .long l4]) bf74_26 bf74_28 rfl rfl).trans ?_
  refine (bu (ls'' := [none, none, none, none, none, none]) (st' := [.int l1, .long l4, .long l4]) bf74_28 bf74_29 rfl rfl).trans ?_
  exact bkS bf74_29 bf74_32 rfl (by decide +kernel) (Nat.le_of_ble_eq_true rfl) rfl (bhd rfl)
theorem bk74_19 {w : am_Wd} {l4 : Int64} : am_run 74 19 [none, none, none, none, some (.long l4), none] [] w = am_run 74 33 [none, none, none, none, none, none] [.long l4] w := by
  refine (bu (ls'' := [none, none, none, none, none, none]) (st' := [.long l4]) bf74_19 bf74_21 rfl rfl).trans ?_
  refine (bu (ls'' := [none, none, none, none, none, none]) (st' := [.long l4]) bf74_21 bf74_33 rfl rfl).trans ?_
  rfl
theorem bk74_32 {w : am_Wd} {s0 : Int64} {s1 : Int64} : am_run 74 32 [none, none, none, none, none, none] [.long s0, .long s1] w = am_run 74 33 [none, none, none, none, none, none] [.long (s1 ||| s0)] w := by
  refine (bu (ls'' := [none, none, none, none, none, none]) (st' := [.long (s1 ||| s0)]) bf74_32 bf74_33 rfl rfl).trans ?_
  rfl
theorem bk74_33 {w : am_Wd} {s0 : Int64} : am_run 74 33 [none, none, none, none, none, none] [.long s0] w = some (.inl (some (.long s0)), w) := by
  exact am_e2 bf74_33 rfl (am_ge_rf w)
theorem bf75_0 : am_fetch (am_mth 75) 0 = some (.aload_n 0, 1, [], [4, 5, 6]) := by decide +kernel
theorem bf75_1 : am_fetch (am_mth 75) 1 = some (.getfield 9, 3, [0, 4, 0, 287], [0, 4, 5, 6]) := by decide +kernel
theorem bf75_4 : am_fetch (am_mth 75) 4 = some (.iload_n 1, 1, [], [0, 4, 5, 6]) := by decide +kernel
theorem bf75_5 : am_fetch (am_mth 75) 5 = some (.laload, 1, [], [0, 4, 5, 6]) := by decide +kernel
theorem bf75_6 : am_fetch (am_mth 75) 6 = some (.lstore 4, 2, [], [0, 4, 5, 6]) := by decide +kernel
theorem bf75_8 : am_fetch (am_mth 75) 8 = some (.iconst 0, 1, [], [0, 5, 6]) := by decide +kernel
theorem bf75_9 : am_fetch (am_mth 75) 9 = some (.istore 6, 2, [], [0, 5, 6]) := by decide +kernel
theorem bf75_11 : am_fetch (am_mth 75) 11 = some (.iload 6, 2, [], [0, 5]) := by decide +kernel
theorem bf75_13 : am_fetch (am_mth 75) 13 = some (.iconst 3, 1, [], [0, 5]) := by decide +kernel
theorem bf75_14 : am_fetch (am_mth 75) 14 = some (.if_icmp .ge 38, 3, [], [0, 5]) := by decide +kernel
theorem bf75_17 : am_fetch (am_mth 75) 17 = some (.lload 4, 2, [], [0, 5]) := by decide +kernel
theorem bf75_19 : am_fetch (am_mth 75) 19 = some (.aload_n 3, 1, [], [0, 4, 5]) := by decide +kernel
theorem bf75_20 : am_fetch (am_mth 75) 20 = some (.iload_n 1, 1, [], [0, 4, 5]) := by decide +kernel
theorem bf75_21 : am_fetch (am_mth 75) 21 = some (.iload 6, 2, [], [0, 4, 5]) := by decide +kernel
theorem bf75_23 : am_fetch (am_mth 75) 23 = some (.invokestatic 43, 3, [0, 15, 2, 452, 453, 23], [0, 4, 5]) := by decide +kernel
theorem bf75_26 : am_fetch (am_mth 75) 26 = some (.iload_n 2, 1, [], [0, 4, 5]) := by decide +kernel
theorem bf75_27 : am_fetch (am_mth 75) 27 = some (.iload 6, 2, [], [0, 4, 5]) := by decide +kernel
theorem bf75_29 : am_fetch (am_mth 75) 29 = some (.iushr, 1, [], [0, 4, 5]) := by decide +kernel
theorem bf75_30 : am_fetch (am_mth 75) 30 = some (.iconst 1, 1, [], [0, 4, 5]) := by decide +kernel
theorem bf75_31 : am_fetch (am_mth 75) 31 = some (.iand, 1, [], [0, 4, 5]) := by decide +kernel
theorem bf75_32 : am_fetch (am_mth 75) 32 = some (.ifCond .eq 7, 3, [], [0, 4, 5]) := by decide +kernel
theorem bf75_35 : am_fetch (am_mth 75) 35 = some (.iconst 1, 1, [], [0, 4, 5]) := by decide +kernel
theorem bf75_36 : am_fetch (am_mth 75) 36 = some (.goto 4, 3, [], [0, 4, 5]) := by decide +kernel
theorem bf75_39 : am_fetch (am_mth 75) 39 = some (.iconst 0, 1, [], [0, 4, 5]) := by decide +kernel
theorem bf75_40 : am_fetch (am_mth 75) 40 = some (.invokevirtual 33, 3, [0, 21, 2, 7, 432, 433, 434, 29], [0, 4, 5]) := by decide +kernel
theorem bf75_43 : am_fetch (am_mth 75) 43 = some (.land, 1, [], [0, 4, 5]) := by decide +kernel
theorem bf75_44 : am_fetch (am_mth 75) 44 = some (.lstore 4, 2, [], [0, 4, 5]) := by decide +kernel
theorem bf75_46 : am_fetch (am_mth 75) 46 = some (.iinc 6 1, 3, [], [0, 5]) := by decide +kernel
theorem bf75_49 : am_fetch (am_mth 75) 49 = some (.goto (-38), 3, [], [0, 5]) := by decide +kernel
theorem bf75_52 : am_fetch (am_mth 75) 52 = some (.lload 4, 2, [], [0, 1, 2, 3, 5, 6]) := by decide +kernel
theorem bf75_54 : am_fetch (am_mth 75) 54 = some (.lreturn, 1, [], [0, 1, 2, 3, 4, 5, 6]) := by decide +kernel
theorem bk75_0 {w : am_Wd} {l0 : Nat} {l1 : Int32} {l2 : Int32} {l3 : Nat} : am_run 75 0 [some (.ref l0), some (.int l1), some (.int l2), some (.ref l3), none, none, none] [] w = (am_gf w l0 4 0).bind fun v => am_run 75 4 [none, some (.int l1), some (.int l2), some (.ref l3), none, none, none] (v :: []) w := by
  refine (bu (ls'' := [none, some (.int l1), some (.int l2), some (.ref l3), none, none, none]) (st' := [.ref l0]) bf75_0 bf75_1 rfl rfl).trans ?_
  exact bh bf75_1 bf75_4 rfl (fun _ _ => am_ge_rf w) rfl
theorem bk75_4 {w : am_Wd} {l1 : Int32} {l2 : Int32} {l3 : Nat} {s0 : Nat} : am_run 75 4 [none, some (.int l1), some (.int l2), some (.ref l3), none, none, none] [.ref s0] w = (am_rl w s0 l1).bind fun v => am_run 75 6 [none, some (.int l1), some (.int l2), some (.ref l3), none, none, none] (.long v :: []) w := by
  refine (bu (ls'' := [none, some (.int l1), some (.int l2), some (.ref l3), none, none, none]) (st' := [.int l1, .ref s0]) bf75_4 bf75_5 rfl rfl).trans ?_
  exact bh bf75_5 bf75_6 rfl (fun _ _ => am_ge_rf w) rfl
theorem bk75_6 {w : am_Wd} {l1 : Int32} {l2 : Int32} {l3 : Nat} {s0 : Int64} : am_run 75 6 [none, some (.int l1), some (.int l2), some (.ref l3), none, none, none] [.long s0] w = am_run 75 11 [none, some (.int l1), some (.int l2), some (.ref l3), some (.long s0), none, some (.int (nI 0))] [] w := by
  refine (bu (ls'' := [none, some (.int l1), some (.int l2), some (.ref l3), some (.long s0), none, none]) (st' := []) bf75_6 bf75_8 rfl rfl).trans ?_
  refine (bu (ls'' := [none, some (.int l1), some (.int l2), some (.ref l3), some (.long s0), none, none]) (st' := [.int (nI 0)]) bf75_8 bf75_9 rfl rfl).trans ?_
  refine (bu (ls'' := [none, some (.int l1), some (.int l2), some (.ref l3), some (.long s0), none, some (.int (nI 0))]) (st' := []) bf75_9 bf75_11 rfl rfl).trans ?_
  rfl
theorem bk75_11 {w : am_Wd} {l1 : Int32} {l2 : Int32} {l3 : Nat} {l4 : Int64} {l6 : Int32} : am_run 75 11 [none, some (.int l1), some (.int l2), some (.ref l3), some (.long l4), none, some (.int l6)] [] w = if (nI 3) ≤ l6 then am_run 75 52 [none, none, none, none, some (.long l4), none, none] [] w else am_run 75 17 [none, some (.int l1), some (.int l2), some (.ref l3), some (.long l4), none, some (.int l6)] [] w := by
  refine (bu (ls'' := [none, some (.int l1), some (.int l2), some (.ref l3), some (.long l4), none, some (.int l6)]) (st' := [.int l6]) bf75_11 bf75_13 rfl rfl).trans ?_
  refine (bu (ls'' := [none, some (.int l1), some (.int l2), some (.ref l3), some (.long l4), none, some (.int l6)]) (st' := [.int (nI 3), .int l6]) bf75_13 bf75_14 rfl rfl).trans ?_
  exact bic bf75_14 rfl bf75_52 bf75_17 rfl rfl rfl
theorem bk75_52 {w : am_Wd} {l4 : Int64} : am_run 75 52 [none, none, none, none, some (.long l4), none, none] [] w = some (.inl (some (.long l4)), w) := by
  refine (bu (ls'' := [none, none, none, none, none, none, none]) (st' := [.long l4]) bf75_52 bf75_54 rfl rfl).trans ?_
  exact am_e2 bf75_54 rfl (am_ge_rf w)
theorem bk75_17 {w : am_Wd} {l1 : Int32} {l2 : Int32} {l3 : Nat} {l4 : Int64} {l6 : Int32} : am_run 75 17 [none, some (.int l1), some (.int l2), some (.ref l3), some (.long l4), none, some (.int l6)] [] w = (am_x 15 [.int l1, .int l6] w).bind fun r => bct r fun v w' => am_run 75 26 [none, some (.int l1), some (.int l2), some (.ref l3), none, none, some (.int l6)] (v.toList ++ [.ref l3, .long l4]) w' := by
  refine (bu (ls'' := [none, some (.int l1), some (.int l2), some (.ref l3), none, none, some (.int l6)]) (st' := [.long l4]) bf75_17 bf75_19 rfl rfl).trans ?_
  refine (bu (ls'' := [none, some (.int l1), some (.int l2), some (.ref l3), none, none, some (.int l6)]) (st' := [.ref l3, .long l4]) bf75_19 bf75_20 rfl rfl).trans ?_
  refine (bu (ls'' := [none, some (.int l1), some (.int l2), some (.ref l3), none, none, some (.int l6)]) (st' := [.int l1, .ref l3, .long l4]) bf75_20 bf75_21 rfl rfl).trans ?_
  refine (bu (ls'' := [none, some (.int l1), some (.int l2), some (.ref l3), none, none, some (.int l6)]) (st' := [.int l6, .int l1, .ref l3, .long l4]) bf75_21 bf75_23 rfl rfl).trans ?_
  exact bkS bf75_23 bf75_26 rfl (by decide +kernel) (Nat.le_of_ble_eq_true rfl) rfl (bhd rfl)
theorem bk75_26 {w : am_Wd} {l1 : Int32} {l2 : Int32} {l3 : Nat} {l6 : Int32} {s0 : Int32} {s1 : Nat} {s2 : Int64} : am_run 75 26 [none, some (.int l1), some (.int l2), some (.ref l3), none, none, some (.int l6)] [.int s0, .ref s1, .long s2] w = if ((bj_iushr l2 l6) &&& (nI 1)) = nI 0 then am_run 75 39 [none, some (.int l1), some (.int l2), some (.ref l3), none, none, some (.int l6)] [.int s0, .ref s1, .long s2] w else am_run 75 35 [none, some (.int l1), some (.int l2), some (.ref l3), none, none, some (.int l6)] [.int s0, .ref s1, .long s2] w := by
  refine (bu (ls'' := [none, some (.int l1), some (.int l2), some (.ref l3), none, none, some (.int l6)]) (st' := [.int l2, .int s0, .ref s1, .long s2]) bf75_26 bf75_27 rfl rfl).trans ?_
  refine (bu (ls'' := [none, some (.int l1), some (.int l2), some (.ref l3), none, none, some (.int l6)]) (st' := [.int l6, .int l2, .int s0, .ref s1, .long s2]) bf75_27 bf75_29 rfl rfl).trans ?_
  refine (bu (ls'' := [none, some (.int l1), some (.int l2), some (.ref l3), none, none, some (.int l6)]) (st' := [.int (bj_iushr l2 l6), .int s0, .ref s1, .long s2]) bf75_29 bf75_30 rfl rfl).trans ?_
  refine (bu (ls'' := [none, some (.int l1), some (.int l2), some (.ref l3), none, none, some (.int l6)]) (st' := [.int (nI 1), .int (bj_iushr l2 l6), .int s0, .ref s1, .long s2]) bf75_30 bf75_31 rfl rfl).trans ?_
  refine (bu (ls'' := [none, some (.int l1), some (.int l2), some (.ref l3), none, none, some (.int l6)]) (st' := [.int ((bj_iushr l2 l6) &&& (nI 1)), .int s0, .ref s1, .long s2]) bf75_31 bf75_32 rfl rfl).trans ?_
  exact bifc bf75_32 rfl bf75_39 bf75_35 rfl rfl rfl
theorem bk75_39 {w : am_Wd} {l1 : Int32} {l2 : Int32} {l3 : Nat} {l6 : Int32} {s0 : Int32} {s1 : Nat} {s2 : Int64} : am_run 75 39 [none, some (.int l1), some (.int l2), some (.ref l3), none, none, some (.int l6)] [.int s0, .ref s1, .long s2] w = am_run 75 40 [none, some (.int l1), some (.int l2), some (.ref l3), none, none, some (.int l6)] [.int (nI 0), .int s0, .ref s1, .long s2] w := by
  refine (bu (ls'' := [none, some (.int l1), some (.int l2), some (.ref l3), none, none, some (.int l6)]) (st' := [.int (nI 0), .int s0, .ref s1, .long s2]) bf75_39 bf75_40 rfl rfl).trans ?_
  rfl
theorem bk75_35 {w : am_Wd} {l1 : Int32} {l2 : Int32} {l3 : Nat} {l6 : Int32} {s0 : Int32} {s1 : Nat} {s2 : Int64} : am_run 75 35 [none, some (.int l1), some (.int l2), some (.ref l3), none, none, some (.int l6)] [.int s0, .ref s1, .long s2] w = am_run 75 40 [none, some (.int l1), some (.int l2), some (.ref l3), none, none, some (.int l6)] [.int (nI 1), .int s0, .ref s1, .long s2] w := by
  refine (bu (ls'' := [none, some (.int l1), some (.int l2), some (.ref l3), none, none, some (.int l6)]) (st' := [.int (nI 1), .int s0, .ref s1, .long s2]) bf75_35 bf75_36 rfl rfl).trans ?_
  refine (bu (ls'' := [none, some (.int l1), some (.int l2), some (.ref l3), none, none, some (.int l6)]) (st' := [.int (nI 1), .int s0, .ref s1, .long s2]) bf75_36 bf75_40 rfl rfl).trans ?_
  rfl
theorem bk75_40 {w : am_Wd} {l1 : Int32} {l2 : Int32} {l3 : Nat} {l6 : Int32} {s0 : Int32} {s1 : Int32} {s2 : Nat} {s3 : Int64} : am_run 75 40 [none, some (.int l1), some (.int l2), some (.ref l3), none, none, some (.int l6)] [.int s0, .int s1, .ref s2, .long s3] w = (am_kf w s2 7).bind fun _ => (am_x 21 [.ref s2, .int s1, .int s0] w).bind fun r => bct r fun v w' => am_run 75 43 [none, some (.int l1), some (.int l2), some (.ref l3), none, none, some (.int l6)] (v.toList ++ [.long s3]) w' := by
  exact bkV bf75_40 bf75_43 rfl (by decide +kernel) (Nat.le_of_ble_eq_true rfl) rfl (bhd rfl)
theorem bk75_43 {w : am_Wd} {l1 : Int32} {l2 : Int32} {l3 : Nat} {l6 : Int32} {s0 : Int64} {s1 : Int64} : am_run 75 43 [none, some (.int l1), some (.int l2), some (.ref l3), none, none, some (.int l6)] [.long s0, .long s1] w = am_run 75 11 [none, some (.int l1), some (.int l2), some (.ref l3), some (.long (s1 &&& s0)), none, some (.int (l6 + (nI 1)))] [] w := by
  refine (bu (ls'' := [none, some (.int l1), some (.int l2), some (.ref l3), none, none, some (.int l6)]) (st' := [.long (s1 &&& s0)]) bf75_43 bf75_44 rfl rfl).trans ?_
  refine (bu (ls'' := [none, some (.int l1), some (.int l2), some (.ref l3), some (.long (s1 &&& s0)), none, some (.int l6)]) (st' := []) bf75_44 bf75_46 rfl rfl).trans ?_
  refine (bu (ls'' := [none, some (.int l1), some (.int l2), some (.ref l3), some (.long (s1 &&& s0)), none, some (.int (l6 + (nI 1)))]) (st' := []) bf75_46 bf75_49 rfl rfl).trans ?_
  refine (bu (ls'' := [none, some (.int l1), some (.int l2), some (.ref l3), some (.long (s1 &&& s0)), none, some (.int (l6 + (nI 1)))]) (st' := []) bf75_49 bf75_11 rfl rfl).trans ?_
  rfl
theorem bf76_0 : am_fetch (am_mth 76) 0 = some (.iload_n 0, 1, [], [2, 3]) := by decide +kernel
theorem bf76_1 : am_fetch (am_mth 76) 1 = some (.iload_n 1, 1, [], [2, 3]) := by decide +kernel
theorem bf76_2 : am_fetch (am_mth 76) 2 = some (.invokestatic 18, 3, [0, 13, 2, 173, 174, 23], [2, 3]) := by decide +kernel
theorem bf76_5 : am_fetch (am_mth 76) 5 = some (.istore_n 2, 1, [], [2, 3]) := by decide +kernel
theorem bf76_6 : am_fetch (am_mth 76) 6 = some (.iload_n 2, 1, [], [3]) := by decide +kernel
theorem bf76_7 : am_fetch (am_mth 76) 7 = some (.iconst (-1), 1, [], [3]) := by decide +kernel
theorem bf76_8 : am_fetch (am_mth 76) 8 = some (.if_icmp .ne 5, 3, [], [3]) := by decide +kernel
theorem bf76_11 : am_fetch (am_mth 76) 11 = some (.iconst (-1), 1, [], [0, 1, 2, 3]) := by decide +kernel
theorem bf76_12 : am_fetch (am_mth 76) 12 = some (.ireturn, 1, [0], [0, 1, 2, 3]) := by decide +kernel
theorem bf76_13 : am_fetch (am_mth 76) 13 = some (.iload_n 0, 1, [], [3]) := by decide +kernel
theorem bf76_14 : am_fetch (am_mth 76) 14 = some (.iload_n 2, 1, [], [0, 3]) := by decide +kernel
theorem bf76_15 : am_fetch (am_mth 76) 15 = some (.invokestatic 24, 3, [2, 186, 187, 24, 188], [0, 2, 3]) := by decide +kernel
theorem bf76_18 : am_fetch (am_mth 76) 18 = some (.iconst 2, 1, [], [0, 2, 3]) := by decide +kernel
theorem bf76_19 : am_fetch (am_mth 76) 19 = some (.imul, 1, [], [0, 2, 3]) := by decide +kernel
theorem bf76_20 : am_fetch (am_mth 76) 20 = some (.istore_n 3, 1, [], [0, 2, 3]) := by decide +kernel
theorem bf76_21 : am_fetch (am_mth 76) 21 = some (.iload_n 1, 1, [], [0, 2]) := by decide +kernel
theorem bf76_22 : am_fetch (am_mth 76) 22 = some (.ifCond .eq 8, 3, [], [0, 2]) := by decide +kernel
theorem bf76_25 : am_fetch (am_mth 76) 25 = some (.iload_n 1, 1, [], [0, 2]) := by decide +kernel
theorem bf76_26 : am_fetch (am_mth 76) 26 = some (.iconst 2, 1, [], [0, 1, 2]) := by decide +kernel
theorem bf76_27 : am_fetch (am_mth 76) 27 = some (.if_icmp .ne 9, 3, [], [0, 1, 2]) := by decide +kernel
theorem bf76_30 : am_fetch (am_mth 76) 30 = some (.iload_n 3, 1, [], [0, 1, 2]) := by decide +kernel
theorem bf76_31 : am_fetch (am_mth 76) 31 = some (.iconst 1, 1, [], [0, 1, 2, 3]) := by decide +kernel
theorem bf76_32 : am_fetch (am_mth 76) 32 = some (.iadd, 1, [], [0, 1, 2, 3]) := by decide +kernel
theorem bf76_33 : am_fetch (am_mth 76) 33 = some (.goto 4, 3, [], [0, 1, 2, 3]) := by decide +kernel
theorem bf76_36 : am_fetch (am_mth 76) 36 = some (.iload_n 3, 1, [], [0, 1, 2]) := by decide +kernel
theorem bf76_37 : am_fetch (am_mth 76) 37 = some (.ireturn, 1, [0], [0, 1, 2, 3]) := by decide +kernel
theorem bk76_0 {w : am_Wd} {l0 : Int32} {l1 : Int32} : am_run 76 0 [some (.int l0), some (.int l1), none, none] [] w = (am_x 13 [.int l0, .int l1] w).bind fun r => bct r fun v w' => am_run 76 5 [some (.int l0), some (.int l1), none, none] (v.toList ++ []) w' := by
  refine (bu (ls'' := [some (.int l0), some (.int l1), none, none]) (st' := [.int l0]) bf76_0 bf76_1 rfl rfl).trans ?_
  refine (bu (ls'' := [some (.int l0), some (.int l1), none, none]) (st' := [.int l1, .int l0]) bf76_1 bf76_2 rfl rfl).trans ?_
  exact bkS bf76_2 bf76_5 rfl (by decide +kernel) (Nat.le_of_ble_eq_true rfl) rfl (bhd rfl)
theorem bk76_5 {w : am_Wd} {l0 : Int32} {l1 : Int32} {s0 : Int32} : am_run 76 5 [some (.int l0), some (.int l1), none, none] [.int s0] w = if ¬ s0 = (-1 : Int32) then am_run 76 13 [some (.int l0), some (.int l1), some (.int s0), none] [] w else am_run 76 11 [none, none, none, none] [] w := by
  refine (bu (ls'' := [some (.int l0), some (.int l1), some (.int s0), none]) (st' := []) bf76_5 bf76_6 rfl rfl).trans ?_
  refine (bu (ls'' := [some (.int l0), some (.int l1), some (.int s0), none]) (st' := [.int s0]) bf76_6 bf76_7 rfl rfl).trans ?_
  refine (bu (ls'' := [some (.int l0), some (.int l1), some (.int s0), none]) (st' := [.int (-1 : Int32), .int s0]) bf76_7 bf76_8 rfl rfl).trans ?_
  exact bic bf76_8 rfl bf76_13 bf76_11 rfl rfl rfl
theorem bk76_13 {w : am_Wd} {l0 : Int32} {l1 : Int32} {l2 : Int32} : am_run 76 13 [some (.int l0), some (.int l1), some (.int l2), none] [] w = if l1 = nI 0 then am_run 76 30 [none, none, none, some (.int ((bj_min l0 l2) * (nI 2)))] [] w else am_run 76 25 [none, some (.int l1), none, some (.int ((bj_min l0 l2) * (nI 2)))] [] w := by
  refine (bu (ls'' := [none, some (.int l1), some (.int l2), none]) (st' := [.int l0]) bf76_13 bf76_14 rfl rfl).trans ?_
  refine (bu (ls'' := [none, some (.int l1), none, none]) (st' := [.int l2, .int l0]) bf76_14 bf76_15 rfl rfl).trans ?_
  refine (bu (ls'' := [none, some (.int l1), none, none]) (st' := [.int (bj_min l0 l2)]) bf76_15 bf76_18 rfl rfl).trans ?_
  refine (bu (ls'' := [none, some (.int l1), none, none]) (st' := [.int (nI 2), .int (bj_min l0 l2)]) bf76_18 bf76_19 rfl rfl).trans ?_
  refine (bu (ls'' := [none, some (.int l1), none, none]) (st' := [.int ((bj_min l0 l2) * (nI 2))]) bf76_19 bf76_20 rfl rfl).trans ?_
  refine (bu (ls'' := [none, some (.int l1), none, some (.int ((bj_min l0 l2) * (nI 2)))]) (st' := []) bf76_20 bf76_21 rfl rfl).trans ?_
  refine (bu (ls'' := [none, some (.int l1), none, some (.int ((bj_min l0 l2) * (nI 2)))]) (st' := [.int l1]) bf76_21 bf76_22 rfl rfl).trans ?_
  exact bifc bf76_22 rfl bf76_30 bf76_25 rfl rfl rfl
theorem bk76_11 {w : am_Wd}  : am_run 76 11 [none, none, none, none] [] w = some (.inl (some (.int (-1 : Int32))), w) := by
  refine (bu (ls'' := [none, none, none, none]) (st' := [.int (-1 : Int32)]) bf76_11 bf76_12 rfl rfl).trans ?_
  exact am_e2 bf76_12 rfl (am_ge_rf w)
theorem bk76_30 {w : am_Wd} {l3 : Int32} : am_run 76 30 [none, none, none, some (.int l3)] [] w = am_run 76 37 [none, none, none, none] [.int (l3 + (nI 1))] w := by
  refine (bu (ls'' := [none, none, none, none]) (st' := [.int l3]) bf76_30 bf76_31 rfl rfl).trans ?_
  refine (bu (ls'' := [none, none, none, none]) (st' := [.int (nI 1), .int l3]) bf76_31 bf76_32 rfl rfl).trans ?_
  refine (bu (ls'' := [none, none, none, none]) (st' := [.int (l3 + (nI 1))]) bf76_32 bf76_33 rfl rfl).trans ?_
  refine (bu (ls'' := [none, none, none, none]) (st' := [.int (l3 + (nI 1))]) bf76_33 bf76_37 rfl rfl).trans ?_
  rfl
theorem bk76_25 {w : am_Wd} {l1 : Int32} {l3 : Int32} : am_run 76 25 [none, some (.int l1), none, some (.int l3)] [] w = if ¬ l1 = (nI 2) then am_run 76 36 [none, none, none, some (.int l3)] [] w else am_run 76 30 [none, none, none, some (.int l3)] [] w := by
  refine (bu (ls'' := [none, none, none, some (.int l3)]) (st' := [.int l1]) bf76_25 bf76_26 rfl rfl).trans ?_
  refine (bu (ls'' := [none, none, none, some (.int l3)]) (st' := [.int (nI 2), .int l1]) bf76_26 bf76_27 rfl rfl).trans ?_
  exact bic bf76_27 rfl bf76_36 bf76_30 rfl rfl rfl
theorem bk76_37 {w : am_Wd} {s0 : Int32} : am_run 76 37 [none, none, none, none] [.int s0] w = some (.inl (some (.int s0)), w) := by
  exact am_e2 bf76_37 rfl (am_ge_rf w)
theorem bk76_36 {w : am_Wd} {l3 : Int32} : am_run 76 36 [none, none, none, some (.int l3)] [] w = am_run 76 37 [none, none, none, none] [.int l3] w := by
  refine (bu (ls'' := [none, none, none, none]) (st' := [.int l3]) bf76_36 bf76_37 rfl rfl).trans ?_
  rfl
theorem bf77_0 : am_fetch (am_mth 77) 0 = some (.iconst 0, 1, [], [2, 3]) := by decide +kernel
theorem bf77_1 : am_fetch (am_mth 77) 1 = some (.istore_n 2, 1, [], [2, 3]) := by decide +kernel
theorem bf77_2 : am_fetch (am_mth 77) 2 = some (.iconst 0, 1, [], [3]) := by decide +kernel
theorem bf77_3 : am_fetch (am_mth 77) 3 = some (.istore_n 3, 1, [], [3]) := by decide +kernel
theorem bf77_4 : am_fetch (am_mth 77) 4 = some (.iload_n 3, 1, [], []) := by decide +kernel
theorem bf77_5 : am_fetch (am_mth 77) 5 = some (.bipush 72, 2, [], []) := by decide +kernel
theorem bf77_7 : am_fetch (am_mth 77) 7 = some (.if_icmp .ge 35, 3, [], []) := by decide +kernel
theorem bf77_10 : am_fetch (am_mth 77) 10 = some (.aload_n 0, 1, [], []) := by decide +kernel
theorem bf77_11 : am_fetch (am_mth 77) 11 = some (.getfield 11, 3, [0, 5, 0, 45], []) := by decide +kernel
theorem bf77_14 : am_fetch (am_mth 77) 14 = some (.iload_n 3, 1, [], []) := by decide +kernel
theorem bf77_15 : am_fetch (am_mth 77) 15 = some (.iaload, 1, [], []) := by decide +kernel
theorem bf77_16 : am_fetch (am_mth 77) 16 = some (.iconst 2, 1, [], []) := by decide +kernel
theorem bf77_17 : am_fetch (am_mth 77) 17 = some (.if_icmp .ne 19, 3, [], []) := by decide +kernel
theorem bf77_20 : am_fetch (am_mth 77) 20 = some (.aload_n 0, 1, [], []) := by decide +kernel
theorem bf77_21 : am_fetch (am_mth 77) 21 = some (.getfield 15, 3, [0, 5, 1, 46], []) := by decide +kernel
theorem bf77_24 : am_fetch (am_mth 77) 24 = some (.iload_n 3, 1, [], []) := by decide +kernel
theorem bf77_25 : am_fetch (am_mth 77) 25 = some (.iaload, 1, [], []) := by decide +kernel
theorem bf77_26 : am_fetch (am_mth 77) 26 = some (.iload_n 1, 1, [], []) := by decide +kernel
theorem bf77_27 : am_fetch (am_mth 77) 27 = some (.invokestatic 53, 3, [0, 9, 2, 367, 368, 18], []) := by decide +kernel
theorem bf77_30 : am_fetch (am_mth 77) 30 = some (.ifCond .eq 6, 3, [], []) := by decide +kernel
theorem bf77_33 : am_fetch (am_mth 77) 33 = some (.iinc 2 1, 3, [], []) := by decide +kernel
theorem bf77_36 : am_fetch (am_mth 77) 36 = some (.iinc 3 1, 3, [], []) := by decide +kernel
theorem bf77_39 : am_fetch (am_mth 77) 39 = some (.goto (-35), 3, [], []) := by decide +kernel
theorem bf77_42 : am_fetch (am_mth 77) 42 = some (.iload_n 2, 1, [], [0, 1, 3]) := by decide +kernel
theorem bf77_43 : am_fetch (am_mth 77) 43 = some (.ireturn, 1, [0], [0, 1, 2, 3]) := by decide +kernel
theorem bk77_0 {w : am_Wd} {l0 : Nat} {l1 : Int32} : am_run 77 0 [some (.ref l0), some (.int l1), none, none] [] w = am_run 77 4 [some (.ref l0), some (.int l1), some (.int (nI 0)), some (.int (nI 0))] [] w := by
  refine (bu (ls'' := [some (.ref l0), some (.int l1), none, none]) (st' := [.int (nI 0)]) bf77_0 bf77_1 rfl rfl).trans ?_
  refine (bu (ls'' := [some (.ref l0), some (.int l1), some (.int (nI 0)), none]) (st' := []) bf77_1 bf77_2 rfl rfl).trans ?_
  refine (bu (ls'' := [some (.ref l0), some (.int l1), some (.int (nI 0)), none]) (st' := [.int (nI 0)]) bf77_2 bf77_3 rfl rfl).trans ?_
  refine (bu (ls'' := [some (.ref l0), some (.int l1), some (.int (nI 0)), some (.int (nI 0))]) (st' := []) bf77_3 bf77_4 rfl rfl).trans ?_
  rfl
theorem bk77_4 {w : am_Wd} {l0 : Nat} {l1 : Int32} {l2 : Int32} {l3 : Int32} : am_run 77 4 [some (.ref l0), some (.int l1), some (.int l2), some (.int l3)] [] w = if (nI 72) ≤ l3 then am_run 77 42 [none, none, some (.int l2), none] [] w else am_run 77 10 [some (.ref l0), some (.int l1), some (.int l2), some (.int l3)] [] w := by
  refine (bu (ls'' := [some (.ref l0), some (.int l1), some (.int l2), some (.int l3)]) (st' := [.int l3]) bf77_4 bf77_5 rfl rfl).trans ?_
  refine (bu (ls'' := [some (.ref l0), some (.int l1), some (.int l2), some (.int l3)]) (st' := [.int (nI 72), .int l3]) bf77_5 bf77_7 rfl rfl).trans ?_
  exact bic bf77_7 rfl bf77_42 bf77_10 rfl rfl rfl
theorem bk77_42 {w : am_Wd} {l2 : Int32} : am_run 77 42 [none, none, some (.int l2), none] [] w = some (.inl (some (.int l2)), w) := by
  refine (bu (ls'' := [none, none, none, none]) (st' := [.int l2]) bf77_42 bf77_43 rfl rfl).trans ?_
  exact am_e2 bf77_43 rfl (am_ge_rf w)
theorem bk77_10 {w : am_Wd} {l0 : Nat} {l1 : Int32} {l2 : Int32} {l3 : Int32} : am_run 77 10 [some (.ref l0), some (.int l1), some (.int l2), some (.int l3)] [] w = (am_gf w l0 5 0).bind fun v => am_run 77 14 [some (.ref l0), some (.int l1), some (.int l2), some (.int l3)] (v :: []) w := by
  refine (bu (ls'' := [some (.ref l0), some (.int l1), some (.int l2), some (.int l3)]) (st' := [.ref l0]) bf77_10 bf77_11 rfl rfl).trans ?_
  exact bh bf77_11 bf77_14 rfl (fun _ _ => am_ge_rf w) rfl
theorem bk77_14 {w : am_Wd} {l0 : Nat} {l1 : Int32} {l2 : Int32} {l3 : Int32} {s0 : Nat} : am_run 77 14 [some (.ref l0), some (.int l1), some (.int l2), some (.int l3)] [.ref s0] w = (am_ri 0 w s0 l3).bind fun v => am_run 77 16 [some (.ref l0), some (.int l1), some (.int l2), some (.int l3)] (.int v :: []) w := by
  refine (bu (ls'' := [some (.ref l0), some (.int l1), some (.int l2), some (.int l3)]) (st' := [.int l3, .ref s0]) bf77_14 bf77_15 rfl rfl).trans ?_
  exact bh bf77_15 bf77_16 rfl (fun _ _ => am_ge_rf w) rfl
theorem bk77_16 {w : am_Wd} {l0 : Nat} {l1 : Int32} {l2 : Int32} {l3 : Int32} {s0 : Int32} : am_run 77 16 [some (.ref l0), some (.int l1), some (.int l2), some (.int l3)] [.int s0] w = if ¬ s0 = (nI 2) then am_run 77 36 [some (.ref l0), some (.int l1), some (.int l2), some (.int l3)] [] w else am_run 77 20 [some (.ref l0), some (.int l1), some (.int l2), some (.int l3)] [] w := by
  refine (bu (ls'' := [some (.ref l0), some (.int l1), some (.int l2), some (.int l3)]) (st' := [.int (nI 2), .int s0]) bf77_16 bf77_17 rfl rfl).trans ?_
  exact bic bf77_17 rfl bf77_36 bf77_20 rfl rfl rfl
theorem bk77_36 {w : am_Wd} {l0 : Nat} {l1 : Int32} {l2 : Int32} {l3 : Int32} : am_run 77 36 [some (.ref l0), some (.int l1), some (.int l2), some (.int l3)] [] w = am_run 77 4 [some (.ref l0), some (.int l1), some (.int l2), some (.int (l3 + (nI 1)))] [] w := by
  refine (bu (ls'' := [some (.ref l0), some (.int l1), some (.int l2), some (.int (l3 + (nI 1)))]) (st' := []) bf77_36 bf77_39 rfl rfl).trans ?_
  refine (bu (ls'' := [some (.ref l0), some (.int l1), some (.int l2), some (.int (l3 + (nI 1)))]) (st' := []) bf77_39 bf77_4 rfl rfl).trans ?_
  rfl
theorem bk77_20 {w : am_Wd} {l0 : Nat} {l1 : Int32} {l2 : Int32} {l3 : Int32} : am_run 77 20 [some (.ref l0), some (.int l1), some (.int l2), some (.int l3)] [] w = (am_gf w l0 5 1).bind fun v => am_run 77 24 [some (.ref l0), some (.int l1), some (.int l2), some (.int l3)] (v :: []) w := by
  refine (bu (ls'' := [some (.ref l0), some (.int l1), some (.int l2), some (.int l3)]) (st' := [.ref l0]) bf77_20 bf77_21 rfl rfl).trans ?_
  exact bh bf77_21 bf77_24 rfl (fun _ _ => am_ge_rf w) rfl
theorem bk77_24 {w : am_Wd} {l0 : Nat} {l1 : Int32} {l2 : Int32} {l3 : Int32} {s0 : Nat} : am_run 77 24 [some (.ref l0), some (.int l1), some (.int l2), some (.int l3)] [.ref s0] w = (am_ri 0 w s0 l3).bind fun v => am_run 77 26 [some (.ref l0), some (.int l1), some (.int l2), some (.int l3)] (.int v :: []) w := by
  refine (bu (ls'' := [some (.ref l0), some (.int l1), some (.int l2), some (.int l3)]) (st' := [.int l3, .ref s0]) bf77_24 bf77_25 rfl rfl).trans ?_
  exact bh bf77_25 bf77_26 rfl (fun _ _ => am_ge_rf w) rfl
theorem bk77_26 {w : am_Wd} {l0 : Nat} {l1 : Int32} {l2 : Int32} {l3 : Int32} {s0 : Int32} : am_run 77 26 [some (.ref l0), some (.int l1), some (.int l2), some (.int l3)] [.int s0] w = (am_x 9 [.int s0, .int l1] w).bind fun r => bct r fun v w' => am_run 77 30 [some (.ref l0), some (.int l1), some (.int l2), some (.int l3)] (v.toList ++ []) w' := by
  refine (bu (ls'' := [some (.ref l0), some (.int l1), some (.int l2), some (.int l3)]) (st' := [.int l1, .int s0]) bf77_26 bf77_27 rfl rfl).trans ?_
  exact bkS bf77_27 bf77_30 rfl (by decide +kernel) (Nat.le_of_ble_eq_true rfl) rfl (bhd rfl)
theorem bk77_30 {w : am_Wd} {l0 : Nat} {l1 : Int32} {l2 : Int32} {l3 : Int32} {s0 : Int32} : am_run 77 30 [some (.ref l0), some (.int l1), some (.int l2), some (.int l3)] [.int s0] w = if s0 = nI 0 then am_run 77 36 [some (.ref l0), some (.int l1), some (.int l2), some (.int l3)] [] w else am_run 77 33 [some (.ref l0), some (.int l1), some (.int l2), some (.int l3)] [] w := by
  exact bifc bf77_30 rfl bf77_36 bf77_33 rfl rfl rfl
theorem bk77_33 {w : am_Wd} {l0 : Nat} {l1 : Int32} {l2 : Int32} {l3 : Int32} : am_run 77 33 [some (.ref l0), some (.int l1), some (.int l2), some (.int l3)] [] w = am_run 77 36 [some (.ref l0), some (.int l1), some (.int (l2 + (nI 1))), some (.int l3)] [] w := by
  refine (bu (ls'' := [some (.ref l0), some (.int l1), some (.int (l2 + (nI 1))), some (.int l3)]) (st' := []) bf77_33 bf77_36 rfl rfl).trans ?_
  rfl
theorem bf78_0 : am_fetch (am_mth 78) 0 = some (.aload_n 0, 1, [], [1]) := by decide +kernel
theorem bf78_1 : am_fetch (am_mth 78) 1 = some (.invokevirtual 46, 3, [0, 17, 0, 6, 617, 597, 598, 28], [1]) := by decide +kernel
theorem bf78_4 : am_fetch (am_mth 78) 4 = some (.aload_n 0, 1, [], [1]) := by decide +kernel
theorem bf78_5 : am_fetch (am_mth 78) 5 = some (.invokevirtual 49, 3, [0, 18, 0, 6, 618, 601, 602, 28], [1]) := by decide +kernel
theorem bf78_8 : am_fetch (am_mth 78) 8 = some (.invokestatic 52, 3, [0, 13, 2, 619, 174, 23], [1]) := by decide +kernel
theorem bf78_11 : am_fetch (am_mth 78) 11 = some (.istore_n 1, 1, [], [1]) := by decide +kernel
theorem bf78_12 : am_fetch (am_mth 78) 12 = some (.iload_n 1, 1, [], []) := by decide +kernel
theorem bf78_13 : am_fetch (am_mth 78) 13 = some (.iconst (-1), 1, [], []) := by decide +kernel
theorem bf78_14 : am_fetch (am_mth 78) 14 = some (.if_icmp .eq 15, 3, [], []) := by decide +kernel
theorem bf78_17 : am_fetch (am_mth 78) 17 = some (.aload_n 0, 1, [], []) := by decide +kernel
theorem bf78_18 : am_fetch (am_mth 78) 18 = some (.iload_n 1, 1, [], []) := by decide +kernel
theorem bf78_19 : am_fetch (am_mth 78) 19 = some (.iconst 4, 1, [], [1]) := by decide +kernel
theorem bf78_20 : am_fetch (am_mth 78) 20 = some (.imul, 1, [], [1]) := by decide +kernel
theorem bf78_21 : am_fetch (am_mth 78) 21 = some (.aload_n 0, 1, [], [1]) := by decide +kernel
theorem bf78_22 : am_fetch (am_mth 78) 22 = some (.invokevirtual 49, 3, [0, 18, 0, 6, 618, 601, 602, 28], [0, 1]) := by decide +kernel
theorem bf78_25 : am_fetch (am_mth 78) 25 = some (.iadd, 1, [], [0, 1]) := by decide +kernel
theorem bf78_26 : am_fetch (am_mth 78) 26 = some (.putfield 29, 3, [0, 6, 3, 306], [0, 1]) := by decide +kernel
theorem bf78_29 : am_fetch (am_mth 78) 29 = some (.return_, 1, [], [0, 1]) := by decide +kernel
theorem bk78_0 {w : am_Wd} {l0 : Nat} : am_run 78 0 [some (.ref l0), none] [] w = (am_kf w l0 6).bind fun _ => (am_x 17 [.ref l0] w).bind fun r => bct r fun v w' => am_run 78 4 [some (.ref l0), none] (v.toList ++ []) w' := by
  refine (bu (ls'' := [some (.ref l0), none]) (st' := [.ref l0]) bf78_0 bf78_1 rfl rfl).trans ?_
  exact bkV bf78_1 bf78_4 rfl (by decide +kernel) (Nat.le_of_ble_eq_true rfl) rfl (bhd rfl)
theorem bk78_4 {w : am_Wd} {l0 : Nat} {s0 : Int32} : am_run 78 4 [some (.ref l0), none] [.int s0] w = (am_kf w l0 6).bind fun _ => (am_x 18 [.ref l0] w).bind fun r => bct r fun v w' => am_run 78 8 [some (.ref l0), none] (v.toList ++ [.int s0]) w' := by
  refine (bu (ls'' := [some (.ref l0), none]) (st' := [.ref l0, .int s0]) bf78_4 bf78_5 rfl rfl).trans ?_
  exact bkV bf78_5 bf78_8 rfl (by decide +kernel) (Nat.le_of_ble_eq_true rfl) rfl (bhd rfl)
theorem bk78_8 {w : am_Wd} {l0 : Nat} {s0 : Int32} {s1 : Int32} : am_run 78 8 [some (.ref l0), none] [.int s0, .int s1] w = (am_x 13 [.int s1, .int s0] w).bind fun r => bct r fun v w' => am_run 78 11 [some (.ref l0), none] (v.toList ++ []) w' := by
  exact bkS bf78_8 bf78_11 rfl (by decide +kernel) (Nat.le_of_ble_eq_true rfl) rfl (bhd rfl)
theorem bk78_11 {w : am_Wd} {l0 : Nat} {s0 : Int32} : am_run 78 11 [some (.ref l0), none] [.int s0] w = if s0 = (-1 : Int32) then am_run 78 29 [none, none] [] w else am_run 78 17 [some (.ref l0), some (.int s0)] [] w := by
  refine (bu (ls'' := [some (.ref l0), some (.int s0)]) (st' := []) bf78_11 bf78_12 rfl rfl).trans ?_
  refine (bu (ls'' := [some (.ref l0), some (.int s0)]) (st' := [.int s0]) bf78_12 bf78_13 rfl rfl).trans ?_
  refine (bu (ls'' := [some (.ref l0), some (.int s0)]) (st' := [.int (-1 : Int32), .int s0]) bf78_13 bf78_14 rfl rfl).trans ?_
  exact bic bf78_14 rfl bf78_29 bf78_17 rfl rfl rfl
theorem bk78_29 {w : am_Wd}  : am_run 78 29 [none, none] [] w = some (.inl none, w) := by
  exact am_e2 bf78_29 rfl (am_ge_rf w)
theorem bk78_17 {w : am_Wd} {l0 : Nat} {l1 : Int32} : am_run 78 17 [some (.ref l0), some (.int l1)] [] w = (am_kf w l0 6).bind fun _ => (am_x 18 [.ref l0] w).bind fun r => bct r fun v w' => am_run 78 25 [none, none] (v.toList ++ [.int (l1 * (nI 4)), .ref l0]) w' := by
  refine (bu (ls'' := [some (.ref l0), some (.int l1)]) (st' := [.ref l0]) bf78_17 bf78_18 rfl rfl).trans ?_
  refine (bu (ls'' := [some (.ref l0), none]) (st' := [.int l1, .ref l0]) bf78_18 bf78_19 rfl rfl).trans ?_
  refine (bu (ls'' := [some (.ref l0), none]) (st' := [.int (nI 4), .int l1, .ref l0]) bf78_19 bf78_20 rfl rfl).trans ?_
  refine (bu (ls'' := [some (.ref l0), none]) (st' := [.int (l1 * (nI 4)), .ref l0]) bf78_20 bf78_21 rfl rfl).trans ?_
  refine (bu (ls'' := [none, none]) (st' := [.ref l0, .int (l1 * (nI 4)), .ref l0]) bf78_21 bf78_22 rfl rfl).trans ?_
  exact bkV bf78_22 bf78_25 rfl (by decide +kernel) (Nat.le_of_ble_eq_true rfl) rfl (bhd rfl)
theorem bk78_25 {w : am_Wd} {s0 : Int32} {s1 : Int32} {s2 : Nat} : am_run 78 25 [none, none] [.int s0, .int s1, .ref s2] w = (am_pf w s2 6 3 (.int (s1 + s0))).bind fun w' => am_run 78 29 [none, none] [] w' := by
  refine (bu (ls'' := [none, none]) (st' := [.int (s1 + s0), .ref s2]) bf78_25 bf78_26 rfl rfl).trans ?_
  exact bh bf78_26 bf78_29 rfl (bge_pf) rfl
theorem bf79_0 : am_fetch (am_mth 79) 0 = some (.aload_n 0, 1, [], [2]) := by decide +kernel
theorem bf79_1 : am_fetch (am_mth 79) 1 = some (.invokevirtual 49, 3, [0, 18, 0, 6, 618, 601, 602, 28], [2]) := by decide +kernel
theorem bf79_4 : am_fetch (am_mth 79) 4 = some (.iload_n 1, 1, [], [2]) := by decide +kernel
theorem bf79_5 : am_fetch (am_mth 79) 5 = some (.ifCond .eq 7, 3, [], [2]) := by decide +kernel
theorem bf79_8 : am_fetch (am_mth 79) 8 = some (.iconst 1, 1, [], [2]) := by decide +kernel
theorem bf79_9 : am_fetch (am_mth 79) 9 = some (.goto 4, 3, [], [2]) := by decide +kernel
theorem bf79_12 : am_fetch (am_mth 79) 12 = some (.iconst 3, 1, [], [2]) := by decide +kernel
theorem bf79_13 : am_fetch (am_mth 79) 13 = some (.iadd, 1, [], [2]) := by decide +kernel
theorem bf79_14 : am_fetch (am_mth 79) 14 = some (.iconst 3, 1, [], [2]) := by decide +kernel
theorem bf79_15 : am_fetch (am_mth 79) 15 = some (.iand, 1, [], [2]) := by decide +kernel
theorem bf79_16 : am_fetch (am_mth 79) 16 = some (.istore_n 2, 1, [], [2]) := by decide +kernel
theorem bf79_17 : am_fetch (am_mth 79) 17 = some (.aload_n 0, 1, [], []) := by decide +kernel
theorem bf79_18 : am_fetch (am_mth 79) 18 = some (.aload_n 0, 1, [], []) := by decide +kernel
theorem bf79_19 : am_fetch (am_mth 79) 19 = some (.invokevirtual 46, 3, [0, 17, 0, 6, 617, 597, 598, 28], []) := by decide +kernel
theorem bf79_22 : am_fetch (am_mth 79) 22 = some (.iconst 4, 1, [], []) := by decide +kernel
theorem bf79_23 : am_fetch (am_mth 79) 23 = some (.imul, 1, [], []) := by decide +kernel
theorem bf79_24 : am_fetch (am_mth 79) 24 = some (.iload_n 2, 1, [], []) := by decide +kernel
theorem bf79_25 : am_fetch (am_mth 79) 25 = some (.iadd, 1, [], [2]) := by decide +kernel
theorem bf79_26 : am_fetch (am_mth 79) 26 = some (.putfield 29, 3, [0, 6, 3, 306], [2]) := by decide +kernel
theorem bf79_29 : am_fetch (am_mth 79) 29 = some (.iload_n 1, 1, [], [2]) := by decide +kernel
theorem bf79_30 : am_fetch (am_mth 79) 30 = some (.ifCond .eq 13, 3, [], [1, 2]) := by decide +kernel
theorem bf79_33 : am_fetch (am_mth 79) 33 = some (.aload_n 0, 1, [], [1, 2]) := by decide +kernel
theorem bf79_34 : am_fetch (am_mth 79) 34 = some (.getfield 21, 3, [0, 6, 2, 304], [0, 1, 2]) := by decide +kernel
theorem bf79_37 : am_fetch (am_mth 79) 37 = some (.invokevirtual 58, 3, [0, 4, 0, 4, 653, 654, 655, 30], [0, 1, 2]) := by decide +kernel
theorem bf79_40 : am_fetch (am_mth 79) 40 = some (.goto 10, 3, [], [0, 1, 2]) := by decide +kernel
theorem bf79_43 : am_fetch (am_mth 79) 43 = some (.aload_n 0, 1, [], [1, 2]) := by decide +kernel
theorem bf79_44 : am_fetch (am_mth 79) 44 = some (.getfield 21, 3, [0, 6, 2, 304], [0, 1, 2]) := by decide +kernel
theorem bf79_47 : am_fetch (am_mth 79) 47 = some (.invokevirtual 61, 3, [0, 5, 0, 4, 657, 658, 659, 30], [0, 1, 2]) := by decide +kernel
theorem bf79_50 : am_fetch (am_mth 79) 50 = some (.return_, 1, [], [0, 1, 2]) := by decide +kernel
theorem bk79_0 {w : am_Wd} {l0 : Nat} {l1 : Int32} : am_run 79 0 [some (.ref l0), some (.int l1), none] [] w = (am_kf w l0 6).bind fun _ => (am_x 18 [.ref l0] w).bind fun r => bct r fun v w' => am_run 79 4 [some (.ref l0), some (.int l1), none] (v.toList ++ []) w' := by
  refine (bu (ls'' := [some (.ref l0), some (.int l1), none]) (st' := [.ref l0]) bf79_0 bf79_1 rfl rfl).trans ?_
  exact bkV bf79_1 bf79_4 rfl (by decide +kernel) (Nat.le_of_ble_eq_true rfl) rfl (bhd rfl)
theorem bk79_4 {w : am_Wd} {l0 : Nat} {l1 : Int32} {s0 : Int32} : am_run 79 4 [some (.ref l0), some (.int l1), none] [.int s0] w = if l1 = nI 0 then am_run 79 12 [some (.ref l0), some (.int l1), none] [.int s0] w else am_run 79 8 [some (.ref l0), some (.int l1), none] [.int s0] w := by
  refine (bu (ls'' := [some (.ref l0), some (.int l1), none]) (st' := [.int l1, .int s0]) bf79_4 bf79_5 rfl rfl).trans ?_
  exact bifc bf79_5 rfl bf79_12 bf79_8 rfl rfl rfl
theorem bk79_12 {w : am_Wd} {l0 : Nat} {l1 : Int32} {s0 : Int32} : am_run 79 12 [some (.ref l0), some (.int l1), none] [.int s0] w = am_run 79 13 [some (.ref l0), some (.int l1), none] [.int (nI 3), .int s0] w := by
  refine (bu (ls'' := [some (.ref l0), some (.int l1), none]) (st' := [.int (nI 3), .int s0]) bf79_12 bf79_13 rfl rfl).trans ?_
  rfl
theorem bk79_8 {w : am_Wd} {l0 : Nat} {l1 : Int32} {s0 : Int32} : am_run 79 8 [some (.ref l0), some (.int l1), none] [.int s0] w = am_run 79 13 [some (.ref l0), some (.int l1), none] [.int (nI 1), .int s0] w := by
  refine (bu (ls'' := [some (.ref l0), some (.int l1), none]) (st' := [.int (nI 1), .int s0]) bf79_8 bf79_9 rfl rfl).trans ?_
  refine (bu (ls'' := [some (.ref l0), some (.int l1), none]) (st' := [.int (nI 1), .int s0]) bf79_9 bf79_13 rfl rfl).trans ?_
  rfl
theorem bk79_13 {w : am_Wd} {l0 : Nat} {l1 : Int32} {s0 : Int32} {s1 : Int32} : am_run 79 13 [some (.ref l0), some (.int l1), none] [.int s0, .int s1] w = (am_kf w l0 6).bind fun _ => (am_x 17 [.ref l0] w).bind fun r => bct r fun v w' => am_run 79 22 [some (.ref l0), some (.int l1), some (.int ((s1 + s0) &&& (nI 3)))] (v.toList ++ [.ref l0]) w' := by
  refine (bu (ls'' := [some (.ref l0), some (.int l1), none]) (st' := [.int (s1 + s0)]) bf79_13 bf79_14 rfl rfl).trans ?_
  refine (bu (ls'' := [some (.ref l0), some (.int l1), none]) (st' := [.int (nI 3), .int (s1 + s0)]) bf79_14 bf79_15 rfl rfl).trans ?_
  refine (bu (ls'' := [some (.ref l0), some (.int l1), none]) (st' := [.int ((s1 + s0) &&& (nI 3))]) bf79_15 bf79_16 rfl rfl).trans ?_
  refine (bu (ls'' := [some (.ref l0), some (.int l1), some (.int ((s1 + s0) &&& (nI 3)))]) (st' := []) bf79_16 bf79_17 rfl rfl).trans ?_
  refine (bu (ls'' := [some (.ref l0), some (.int l1), some (.int ((s1 + s0) &&& (nI 3)))]) (st' := [.ref l0]) bf79_17 bf79_18 rfl rfl).trans ?_
  refine (bu (ls'' := [some (.ref l0), some (.int l1), some (.int ((s1 + s0) &&& (nI 3)))]) (st' := [.ref l0, .ref l0]) bf79_18 bf79_19 rfl rfl).trans ?_
  exact bkV bf79_19 bf79_22 rfl (by decide +kernel) (Nat.le_of_ble_eq_true rfl) rfl (bhd rfl)
theorem bk79_22 {w : am_Wd} {l0 : Nat} {l1 : Int32} {l2 : Int32} {s0 : Int32} {s1 : Nat} : am_run 79 22 [some (.ref l0), some (.int l1), some (.int l2)] [.int s0, .ref s1] w = (am_pf w s1 6 3 (.int ((s0 * (nI 4)) + l2))).bind fun w' => am_run 79 29 [some (.ref l0), some (.int l1), none] [] w' := by
  refine (bu (ls'' := [some (.ref l0), some (.int l1), some (.int l2)]) (st' := [.int (nI 4), .int s0, .ref s1]) bf79_22 bf79_23 rfl rfl).trans ?_
  refine (bu (ls'' := [some (.ref l0), some (.int l1), some (.int l2)]) (st' := [.int (s0 * (nI 4)), .ref s1]) bf79_23 bf79_24 rfl rfl).trans ?_
  refine (bu (ls'' := [some (.ref l0), some (.int l1), none]) (st' := [.int l2, .int (s0 * (nI 4)), .ref s1]) bf79_24 bf79_25 rfl rfl).trans ?_
  refine (bu (ls'' := [some (.ref l0), some (.int l1), none]) (st' := [.int ((s0 * (nI 4)) + l2), .ref s1]) bf79_25 bf79_26 rfl rfl).trans ?_
  exact bh bf79_26 bf79_29 rfl (bge_pf) rfl
theorem bk79_29 {w : am_Wd} {l0 : Nat} {l1 : Int32} : am_run 79 29 [some (.ref l0), some (.int l1), none] [] w = if l1 = nI 0 then am_run 79 43 [some (.ref l0), none, none] [] w else am_run 79 33 [some (.ref l0), none, none] [] w := by
  refine (bu (ls'' := [some (.ref l0), none, none]) (st' := [.int l1]) bf79_29 bf79_30 rfl rfl).trans ?_
  exact bifc bf79_30 rfl bf79_43 bf79_33 rfl rfl rfl
theorem bk79_43 {w : am_Wd} {l0 : Nat} : am_run 79 43 [some (.ref l0), none, none] [] w = (am_gf w l0 6 2).bind fun v => am_run 79 47 [none, none, none] (v :: []) w := by
  refine (bu (ls'' := [none, none, none]) (st' := [.ref l0]) bf79_43 bf79_44 rfl rfl).trans ?_
  exact bh bf79_44 bf79_47 rfl (fun _ _ => am_ge_rf w) rfl
theorem bk79_33 {w : am_Wd} {l0 : Nat} : am_run 79 33 [some (.ref l0), none, none] [] w = (am_gf w l0 6 2).bind fun v => am_run 79 37 [none, none, none] (v :: []) w := by
  refine (bu (ls'' := [none, none, none]) (st' := [.ref l0]) bf79_33 bf79_34 rfl rfl).trans ?_
  exact bh bf79_34 bf79_37 rfl (fun _ _ => am_ge_rf w) rfl
theorem bk79_47 {w : am_Wd} {s0 : Nat} : am_run 79 47 [none, none, none] [.ref s0] w = (am_kf w s0 4).bind fun _ => (am_x 5 [.ref s0] w).bind fun r => bct r fun v w' => am_run 79 50 [none, none, none] (v.toList ++ []) w' := by
  exact bkV bf79_47 bf79_50 rfl (by decide +kernel) (Nat.le_of_ble_eq_true rfl) rfl (bhd rfl)
theorem bk79_37 {w : am_Wd} {s0 : Nat} : am_run 79 37 [none, none, none] [.ref s0] w = (am_kf w s0 4).bind fun _ => (am_x 4 [.ref s0] w).bind fun r => bct r fun v w' => am_run 79 40 [none, none, none] (v.toList ++ []) w' := by
  exact bkV bf79_37 bf79_40 rfl (by decide +kernel) (Nat.le_of_ble_eq_true rfl) rfl (bhd rfl)
theorem bk79_50 {w : am_Wd}  : am_run 79 50 [none, none, none] [] w = some (.inl none, w) := by
  exact am_e2 bf79_50 rfl (am_ge_rf w)
theorem bk79_40 {w : am_Wd}  : am_run 79 40 [none, none, none] [] w = am_run 79 50 [none, none, none] [] w := by
  refine (bu (ls'' := [none, none, none]) (st' := []) bf79_40 bf79_50 rfl rfl).trans ?_
  rfl
theorem bf80_0 : am_fetch (am_mth 80) 0 = some (.aload_n 0, 1, [], []) := by decide +kernel
theorem bf80_1 : am_fetch (am_mth 80) 1 = some (.invokespecial 3, 3, [1, 260, 37, 38], []) := by decide +kernel
theorem bf80_4 : am_fetch (am_mth 80) 4 = some (.aload_n 0, 1, [], []) := by decide +kernel
theorem bf80_5 : am_fetch (am_mth 80) 5 = some (.iconst 4, 1, [], []) := by decide +kernel
theorem bf80_6 : am_fetch (am_mth 80) 6 = some (.newarray .long, 2, [1, 280], []) := by decide +kernel
theorem bf80_8 : am_fetch (am_mth 80) 8 = some (.putfield 9, 3, [0, 7, 0, 273], []) := by decide +kernel
theorem bf80_11 : am_fetch (am_mth 80) 11 = some (.aload_n 0, 1, [], []) := by decide +kernel
theorem bf80_12 : am_fetch (am_mth 80) 12 = some (.invokestatic 15, 3, [0, 12, 0, 261, 262, 23], [0]) := by decide +kernel
theorem bf80_15 : am_fetch (am_mth 80) 15 = some (.putfield 21, 3, [0, 7, 1, 274], [0]) := by decide +kernel
theorem bf80_18 : am_fetch (am_mth 80) 18 = some (.return_, 1, [], [0]) := by decide +kernel
theorem bk80_0 {w : am_Wd} {l0 : Nat} : am_run 80 0 [some (.ref l0)] [] w = (am_na w 1 (nI 4)).bind fun w' => am_run 80 8 [some (.ref l0)] (.ref w.2.1 :: [.ref l0]) w' := by
  refine (bu (ls'' := [some (.ref l0)]) (st' := [.ref l0]) bf80_0 bf80_1 rfl rfl).trans ?_
  refine (bu (ls'' := [some (.ref l0)]) (st' := []) bf80_1 bf80_4 rfl rfl).trans ?_
  refine (bu (ls'' := [some (.ref l0)]) (st' := [.ref l0]) bf80_4 bf80_5 rfl rfl).trans ?_
  refine (bu (ls'' := [some (.ref l0)]) (st' := [.int (nI 4), .ref l0]) bf80_5 bf80_6 rfl rfl).trans ?_
  exact bh bf80_6 bf80_8 rfl (bge_na) rfl
theorem bk80_8 {w : am_Wd} {l0 : Nat} {s0 : Nat} {s1 : Nat} : am_run 80 8 [some (.ref l0)] [.ref s0, .ref s1] w = (am_pf w s1 7 0 (.ref s0)).bind fun w' => am_run 80 11 [some (.ref l0)] [] w' := by
  exact bh bf80_8 bf80_11 rfl (bge_pf) rfl
theorem bk80_11 {w : am_Wd} {l0 : Nat} : am_run 80 11 [some (.ref l0)] [] w = (am_x 12 [] w).bind fun r => bct r fun v w' => am_run 80 15 [none] (v.toList ++ [.ref l0]) w' := by
  refine (bu (ls'' := [none]) (st' := [.ref l0]) bf80_11 bf80_12 rfl rfl).trans ?_
  exact bkS bf80_12 bf80_15 rfl (by decide +kernel) (Nat.le_of_ble_eq_true rfl) rfl (bhd rfl)
theorem bk80_15 {w : am_Wd} {s0 : Nat} {s1 : Nat} : am_run 80 15 [none] [.ref s0, .ref s1] w = (am_pf w s1 7 1 (.ref s0)).bind fun w' => am_run 80 18 [none] [] w' := by
  exact bh bf80_15 bf80_18 rfl (bge_pf) rfl
theorem bk80_18 {w : am_Wd}  : am_run 80 18 [none] [] w = some (.inl none, w) := by
  exact am_e2 bf80_18 rfl (am_ge_rf w)
theorem bf81_0 : am_fetch (am_mth 81) 0 = some (.aload_n 0, 1, [], []) := by decide +kernel
theorem bf81_1 : am_fetch (am_mth 81) 1 = some (.getfield 9, 3, [0, 7, 0, 273], []) := by decide +kernel
theorem bf81_4 : am_fetch (am_mth 81) 4 = some (.iload_n 2, 1, [], []) := by decide +kernel
theorem bf81_5 : am_fetch (am_mth 81) 5 = some (.laload, 1, [], []) := by decide +kernel
theorem bf81_6 : am_fetch (am_mth 81) 6 = some (.iload_n 1, 1, [], []) := by decide +kernel
theorem bf81_7 : am_fetch (am_mth 81) 7 = some (.invokestatic 24, 3, [0, 11, 2, 360, 361, 23], []) := by decide +kernel
theorem bf81_10 : am_fetch (am_mth 81) 10 = some (.ifCond .eq 5, 3, [], []) := by decide +kernel
theorem bf81_13 : am_fetch (am_mth 81) 13 = some (.iconst 1, 1, [], [0, 1, 2]) := by decide +kernel
theorem bf81_14 : am_fetch (am_mth 81) 14 = some (.ireturn, 1, [0], [0, 1, 2]) := by decide +kernel
theorem bf81_15 : am_fetch (am_mth 81) 15 = some (.aload_n 0, 1, [], []) := by decide +kernel
theorem bf81_16 : am_fetch (am_mth 81) 16 = some (.getfield 21, 3, [0, 7, 1, 274], [0]) := by decide +kernel
theorem bf81_19 : am_fetch (am_mth 81) 19 = some (.iload_n 2, 1, [], [0]) := by decide +kernel
theorem bf81_20 : am_fetch (am_mth 81) 20 = some (.laload, 1, [], [0, 2]) := by decide +kernel
theorem bf81_21 : am_fetch (am_mth 81) 21 = some (.iload_n 1, 1, [], [0, 2]) := by decide +kernel
theorem bf81_22 : am_fetch (am_mth 81) 22 = some (.invokestatic 24, 3, [0, 11, 2, 360, 361, 23], [0, 1, 2]) := by decide +kernel
theorem bf81_25 : am_fetch (am_mth 81) 25 = some (.ifCond .eq 7, 3, [], [0, 1, 2]) := by decide +kernel
theorem bf81_28 : am_fetch (am_mth 81) 28 = some (.iconst 2, 1, [], [0, 1, 2]) := by decide +kernel
theorem bf81_29 : am_fetch (am_mth 81) 29 = some (.goto 4, 3, [], [0, 1, 2]) := by decide +kernel
theorem bf81_32 : am_fetch (am_mth 81) 32 = some (.iconst 0, 1, [], [0, 1, 2]) := by decide +kernel
theorem bf81_33 : am_fetch (am_mth 81) 33 = some (.ireturn, 1, [0], [0, 1, 2]) := by decide +kernel
theorem bk81_0 {w : am_Wd} {l0 : Nat} {l1 : Int32} {l2 : Int32} : am_run 81 0 [some (.ref l0), some (.int l1), some (.int l2)] [] w = (am_gf w l0 7 0).bind fun v => am_run 81 4 [some (.ref l0), some (.int l1), some (.int l2)] (v :: []) w := by
  refine (bu (ls'' := [some (.ref l0), some (.int l1), some (.int l2)]) (st' := [.ref l0]) bf81_0 bf81_1 rfl rfl).trans ?_
  exact bh bf81_1 bf81_4 rfl (fun _ _ => am_ge_rf w) rfl
theorem bk81_4 {w : am_Wd} {l0 : Nat} {l1 : Int32} {l2 : Int32} {s0 : Nat} : am_run 81 4 [some (.ref l0), some (.int l1), some (.int l2)] [.ref s0] w = (am_rl w s0 l2).bind fun v => am_run 81 6 [some (.ref l0), some (.int l1), some (.int l2)] (.long v :: []) w := by
  refine (bu (ls'' := [some (.ref l0), some (.int l1), some (.int l2)]) (st' := [.int l2, .ref s0]) bf81_4 bf81_5 rfl rfl).trans ?_
  exact bh bf81_5 bf81_6 rfl (fun _ _ => am_ge_rf w) rfl
theorem bk81_6 {w : am_Wd} {l0 : Nat} {l1 : Int32} {l2 : Int32} {s0 : Int64} : am_run 81 6 [some (.ref l0), some (.int l1), some (.int l2)] [.long s0] w = (am_x 11 [.long s0, .int l1] w).bind fun r => bct r fun v w' => am_run 81 10 [some (.ref l0), some (.int l1), some (.int l2)] (v.toList ++ []) w' := by
  refine (bu (ls'' := [some (.ref l0), some (.int l1), some (.int l2)]) (st' := [.int l1, .long s0]) bf81_6 bf81_7 rfl rfl).trans ?_
  exact bkS bf81_7 bf81_10 rfl (by decide +kernel) (Nat.le_of_ble_eq_true rfl) rfl (bhd rfl)
theorem bk81_10 {w : am_Wd} {l0 : Nat} {l1 : Int32} {l2 : Int32} {s0 : Int32} : am_run 81 10 [some (.ref l0), some (.int l1), some (.int l2)] [.int s0] w = if s0 = nI 0 then am_run 81 15 [some (.ref l0), some (.int l1), some (.int l2)] [] w else am_run 81 13 [none, none, none] [] w := by
  exact bifc bf81_10 rfl bf81_15 bf81_13 rfl rfl rfl
theorem bk81_15 {w : am_Wd} {l0 : Nat} {l1 : Int32} {l2 : Int32} : am_run 81 15 [some (.ref l0), some (.int l1), some (.int l2)] [] w = (am_gf w l0 7 1).bind fun v => am_run 81 19 [none, some (.int l1), some (.int l2)] (v :: []) w := by
  refine (bu (ls'' := [none, some (.int l1), some (.int l2)]) (st' := [.ref l0]) bf81_15 bf81_16 rfl rfl).trans ?_
  exact bh bf81_16 bf81_19 rfl (fun _ _ => am_ge_rf w) rfl
theorem bk81_13 {w : am_Wd}  : am_run 81 13 [none, none, none] [] w = some (.inl (some (.int (nI 1))), w) := by
  refine (bu (ls'' := [none, none, none]) (st' := [.int (nI 1)]) bf81_13 bf81_14 rfl rfl).trans ?_
  exact am_e2 bf81_14 rfl (am_ge_rf w)
theorem bk81_19 {w : am_Wd} {l1 : Int32} {l2 : Int32} {s0 : Nat} : am_run 81 19 [none, some (.int l1), some (.int l2)] [.ref s0] w = (am_rl w s0 l2).bind fun v => am_run 81 21 [none, some (.int l1), none] (.long v :: []) w := by
  refine (bu (ls'' := [none, some (.int l1), none]) (st' := [.int l2, .ref s0]) bf81_19 bf81_20 rfl rfl).trans ?_
  exact bh bf81_20 bf81_21 rfl (fun _ _ => am_ge_rf w) rfl
theorem bk81_21 {w : am_Wd} {l1 : Int32} {s0 : Int64} : am_run 81 21 [none, some (.int l1), none] [.long s0] w = (am_x 11 [.long s0, .int l1] w).bind fun r => bct r fun v w' => am_run 81 25 [none, none, none] (v.toList ++ []) w' := by
  refine (bu (ls'' := [none, none, none]) (st' := [.int l1, .long s0]) bf81_21 bf81_22 rfl rfl).trans ?_
  exact bkS bf81_22 bf81_25 rfl (by decide +kernel) (Nat.le_of_ble_eq_true rfl) rfl (bhd rfl)
theorem bk81_25 {w : am_Wd} {s0 : Int32} : am_run 81 25 [none, none, none] [.int s0] w = if s0 = nI 0 then am_run 81 32 [none, none, none] [] w else am_run 81 28 [none, none, none] [] w := by
  exact bifc bf81_25 rfl bf81_32 bf81_28 rfl rfl rfl
theorem bk81_32 {w : am_Wd}  : am_run 81 32 [none, none, none] [] w = am_run 81 33 [none, none, none] [.int (nI 0)] w := by
  refine (bu (ls'' := [none, none, none]) (st' := [.int (nI 0)]) bf81_32 bf81_33 rfl rfl).trans ?_
  rfl
theorem bk81_28 {w : am_Wd}  : am_run 81 28 [none, none, none] [] w = am_run 81 33 [none, none, none] [.int (nI 2)] w := by
  refine (bu (ls'' := [none, none, none]) (st' := [.int (nI 2)]) bf81_28 bf81_29 rfl rfl).trans ?_
  refine (bu (ls'' := [none, none, none]) (st' := [.int (nI 2)]) bf81_29 bf81_33 rfl rfl).trans ?_
  rfl
theorem bk81_33 {w : am_Wd} {s0 : Int32} : am_run 81 33 [none, none, none] [.int s0] w = some (.inl (some (.int s0)), w) := by
  exact am_e2 bf81_33 rfl (am_ge_rf w)
theorem bf82_0 : am_fetch (am_mth 82) 0 = some (.iload_n 1, 1, [], [4]) := by decide +kernel
theorem bf82_1 : am_fetch (am_mth 82) 1 = some (.iload_n 2, 1, [], [4]) := by decide +kernel
theorem bf82_2 : am_fetch (am_mth 82) 2 = some (.invokestatic 28, 3, [0, 13, 2, 628, 174, 23], [4]) := by decide +kernel
theorem bf82_5 : am_fetch (am_mth 82) 5 = some (.istore 4, 2, [], [4]) := by decide +kernel
theorem bf82_7 : am_fetch (am_mth 82) 7 = some (.iload 4, 2, [], []) := by decide +kernel
theorem bf82_9 : am_fetch (am_mth 82) 9 = some (.iconst (-1), 1, [], []) := by decide +kernel
theorem bf82_10 : am_fetch (am_mth 82) 10 = some (.if_icmp .eq 22, 3, [], []) := by decide +kernel
theorem bf82_13 : am_fetch (am_mth 82) 13 = some (.aload_n 0, 1, [], []) := by decide +kernel
theorem bf82_14 : am_fetch (am_mth 82) 14 = some (.iload_n 1, 1, [], []) := by decide +kernel
theorem bf82_15 : am_fetch (am_mth 82) 15 = some (.iload_n 2, 1, [], [1]) := by decide +kernel
theorem bf82_16 : am_fetch (am_mth 82) 16 = some (.iload_n 3, 1, [], [1]) := by decide +kernel
theorem bf82_17 : am_fetch (am_mth 82) 17 = some (.invokevirtual 32, 3, [0, 20, 3, 7, 629, 631, 13, 29], [1]) := by decide +kernel
theorem bf82_20 : am_fetch (am_mth 82) 20 = some (.aload_n 0, 1, [], [1]) := by decide +kernel
theorem bf82_21 : am_fetch (am_mth 82) 21 = some (.iload 4, 2, [], [0, 1]) := by decide +kernel
theorem bf82_23 : am_fetch (am_mth 82) 23 = some (.iload_n 2, 1, [], [0, 1, 4]) := by decide +kernel
theorem bf82_24 : am_fetch (am_mth 82) 24 = some (.iconst 2, 1, [], [0, 1, 2, 4]) := by decide +kernel
theorem bf82_25 : am_fetch (am_mth 82) 25 = some (.iadd, 1, [], [0, 1, 2, 4]) := by decide +kernel
theorem bf82_26 : am_fetch (am_mth 82) 26 = some (.iconst 3, 1, [], [0, 1, 2, 4]) := by decide +kernel
theorem bf82_27 : am_fetch (am_mth 82) 27 = some (.iand, 1, [], [0, 1, 2, 4]) := by decide +kernel
theorem bf82_28 : am_fetch (am_mth 82) 28 = some (.iload_n 3, 1, [], [0, 1, 2, 4]) := by decide +kernel
theorem bf82_29 : am_fetch (am_mth 82) 29 = some (.invokevirtual 32, 3, [0, 20, 3, 7, 629, 631, 13, 29], [0, 1, 2, 3, 4]) := by decide +kernel
theorem bf82_32 : am_fetch (am_mth 82) 32 = some (.return_, 1, [], [0, 1, 2, 3, 4]) := by decide +kernel
theorem bk82_0 {w : am_Wd} {l0 : Nat} {l1 : Int32} {l2 : Int32} {l3 : Int32} : am_run 82 0 [some (.ref l0), some (.int l1), some (.int l2), some (.int l3), none] [] w = (am_x 13 [.int l1, .int l2] w).bind fun r => bct r fun v w' => am_run 82 5 [some (.ref l0), some (.int l1), some (.int l2), some (.int l3), none] (v.toList ++ []) w' := by
  refine (bu (ls'' := [some (.ref l0), some (.int l1), some (.int l2), some (.int l3), none]) (st' := [.int l1]) bf82_0 bf82_1 rfl rfl).trans ?_
  refine (bu (ls'' := [some (.ref l0), some (.int l1), some (.int l2), some (.int l3), none]) (st' := [.int l2, .int l1]) bf82_1 bf82_2 rfl rfl).trans ?_
  exact bkS bf82_2 bf82_5 rfl (by decide +kernel) (Nat.le_of_ble_eq_true rfl) rfl (bhd rfl)
theorem bk82_5 {w : am_Wd} {l0 : Nat} {l1 : Int32} {l2 : Int32} {l3 : Int32} {s0 : Int32} : am_run 82 5 [some (.ref l0), some (.int l1), some (.int l2), some (.int l3), none] [.int s0] w = if s0 = (-1 : Int32) then am_run 82 32 [none, none, none, none, none] [] w else am_run 82 13 [some (.ref l0), some (.int l1), some (.int l2), some (.int l3), some (.int s0)] [] w := by
  refine (bu (ls'' := [some (.ref l0), some (.int l1), some (.int l2), some (.int l3), some (.int s0)]) (st' := []) bf82_5 bf82_7 rfl rfl).trans ?_
  refine (bu (ls'' := [some (.ref l0), some (.int l1), some (.int l2), some (.int l3), some (.int s0)]) (st' := [.int s0]) bf82_7 bf82_9 rfl rfl).trans ?_
  refine (bu (ls'' := [some (.ref l0), some (.int l1), some (.int l2), some (.int l3), some (.int s0)]) (st' := [.int (-1 : Int32), .int s0]) bf82_9 bf82_10 rfl rfl).trans ?_
  exact bic bf82_10 rfl bf82_32 bf82_13 rfl rfl rfl
theorem bk82_32 {w : am_Wd}  : am_run 82 32 [none, none, none, none, none] [] w = some (.inl none, w) := by
  exact am_e2 bf82_32 rfl (am_ge_rf w)
theorem bk82_13 {w : am_Wd} {l0 : Nat} {l1 : Int32} {l2 : Int32} {l3 : Int32} {l4 : Int32} : am_run 82 13 [some (.ref l0), some (.int l1), some (.int l2), some (.int l3), some (.int l4)] [] w = (am_kf w l0 7).bind fun _ => (am_x 20 [.ref l0, .int l1, .int l2, .int l3] w).bind fun r => bct r fun v w' => am_run 82 20 [some (.ref l0), none, some (.int l2), some (.int l3), some (.int l4)] (v.toList ++ []) w' := by
  refine (bu (ls'' := [some (.ref l0), some (.int l1), some (.int l2), some (.int l3), some (.int l4)]) (st' := [.ref l0]) bf82_13 bf82_14 rfl rfl).trans ?_
  refine (bu (ls'' := [some (.ref l0), none, some (.int l2), some (.int l3), some (.int l4)]) (st' := [.int l1, .ref l0]) bf82_14 bf82_15 rfl rfl).trans ?_
  refine (bu (ls'' := [some (.ref l0), none, some (.int l2), some (.int l3), some (.int l4)]) (st' := [.int l2, .int l1, .ref l0]) bf82_15 bf82_16 rfl rfl).trans ?_
  refine (bu (ls'' := [some (.ref l0), none, some (.int l2), some (.int l3), some (.int l4)]) (st' := [.int l3, .int l2, .int l1, .ref l0]) bf82_16 bf82_17 rfl rfl).trans ?_
  exact bkV bf82_17 bf82_20 rfl (by decide +kernel) (Nat.le_of_ble_eq_true rfl) rfl (bhd rfl)
theorem bk82_20 {w : am_Wd} {l0 : Nat} {l2 : Int32} {l3 : Int32} {l4 : Int32} : am_run 82 20 [some (.ref l0), none, some (.int l2), some (.int l3), some (.int l4)] [] w = (am_kf w l0 7).bind fun _ => (am_x 20 [.ref l0, .int l4, .int ((l2 + (nI 2)) &&& (nI 3)), .int l3] w).bind fun r => bct r fun v w' => am_run 82 32 [none, none, none, none, none] (v.toList ++ []) w' := by
  refine (bu (ls'' := [none, none, some (.int l2), some (.int l3), some (.int l4)]) (st' := [.ref l0]) bf82_20 bf82_21 rfl rfl).trans ?_
  refine (bu (ls'' := [none, none, some (.int l2), some (.int l3), none]) (st' := [.int l4, .ref l0]) bf82_21 bf82_23 rfl rfl).trans ?_
  refine (bu (ls'' := [none, none, none, some (.int l3), none]) (st' := [.int l2, .int l4, .ref l0]) bf82_23 bf82_24 rfl rfl).trans ?_
  refine (bu (ls'' := [none, none, none, some (.int l3), none]) (st' := [.int (nI 2), .int l2, .int l4, .ref l0]) bf82_24 bf82_25 rfl rfl).trans ?_
  refine (bu (ls'' := [none, none, none, some (.int l3), none]) (st' := [.int (l2 + (nI 2)), .int l4, .ref l0]) bf82_25 bf82_26 rfl rfl).trans ?_
  refine (bu (ls'' := [none, none, none, some (.int l3), none]) (st' := [.int (nI 3), .int (l2 + (nI 2)), .int l4, .ref l0]) bf82_26 bf82_27 rfl rfl).trans ?_
  refine (bu (ls'' := [none, none, none, some (.int l3), none]) (st' := [.int ((l2 + (nI 2)) &&& (nI 3)), .int l4, .ref l0]) bf82_27 bf82_28 rfl rfl).trans ?_
  refine (bu (ls'' := [none, none, none, none, none]) (st' := [.int l3, .int ((l2 + (nI 2)) &&& (nI 3)), .int l4, .ref l0]) bf82_28 bf82_29 rfl rfl).trans ?_
  exact bkV bf82_29 bf82_32 rfl (by decide +kernel) (Nat.le_of_ble_eq_true rfl) rfl (bhd rfl)
theorem bf83_0 : am_fetch (am_mth 83) 0 = some (.aload_n 0, 1, [], []) := by decide +kernel
theorem bf83_1 : am_fetch (am_mth 83) 1 = some (.getfield 9, 3, [0, 7, 0, 273], []) := by decide +kernel
theorem bf83_4 : am_fetch (am_mth 83) 4 = some (.iconst 1, 1, [], []) := by decide +kernel
theorem bf83_5 : am_fetch (am_mth 83) 5 = some (.laload, 1, [], []) := by decide +kernel
theorem bf83_6 : am_fetch (am_mth 83) 6 = some (.invokestatic 40, 3, [0, 50, 1, 391, 225, 26], []) := by decide +kernel
theorem bf83_9 : am_fetch (am_mth 83) 9 = some (.aload_n 0, 1, [], []) := by decide +kernel
theorem bf83_10 : am_fetch (am_mth 83) 10 = some (.getfield 9, 3, [0, 7, 0, 273], [0]) := by decide +kernel
theorem bf83_13 : am_fetch (am_mth 83) 13 = some (.iconst 2, 1, [], [0]) := by decide +kernel
theorem bf83_14 : am_fetch (am_mth 83) 14 = some (.laload, 1, [], [0]) := by decide +kernel
theorem bf83_15 : am_fetch (am_mth 83) 15 = some (.invokestatic 40, 3, [0, 50, 1, 391, 225, 26], [0]) := by decide +kernel
theorem bf83_18 : am_fetch (am_mth 83) 18 = some (.iadd, 1, [], [0]) := by decide +kernel
theorem bf83_19 : am_fetch (am_mth 83) 19 = some (.ireturn, 1, [0], [0]) := by decide +kernel
theorem bk83_0 {w : am_Wd} {l0 : Nat} : am_run 83 0 [some (.ref l0)] [] w = (am_gf w l0 7 0).bind fun v => am_run 83 4 [some (.ref l0)] (v :: []) w := by
  refine (bu (ls'' := [some (.ref l0)]) (st' := [.ref l0]) bf83_0 bf83_1 rfl rfl).trans ?_
  exact bh bf83_1 bf83_4 rfl (fun _ _ => am_ge_rf w) rfl
theorem bk83_4 {w : am_Wd} {l0 : Nat} {s0 : Nat} : am_run 83 4 [some (.ref l0)] [.ref s0] w = (am_rl w s0 (nI 1)).bind fun v => am_run 83 6 [some (.ref l0)] (.long v :: []) w := by
  refine (bu (ls'' := [some (.ref l0)]) (st' := [.int (nI 1), .ref s0]) bf83_4 bf83_5 rfl rfl).trans ?_
  exact bh bf83_5 bf83_6 rfl (fun _ _ => am_ge_rf w) rfl
theorem bk83_6 {w : am_Wd} {l0 : Nat} {s0 : Int64} : am_run 83 6 [some (.ref l0)] [.long s0] w = (am_x 50 [.long s0] w).bind fun r => bct r fun v w' => am_run 83 9 [some (.ref l0)] (v.toList ++ []) w' := by
  exact bkS bf83_6 bf83_9 rfl (by decide +kernel) (Nat.le_of_ble_eq_true rfl) rfl (bhd rfl)
theorem bk83_9 {w : am_Wd} {l0 : Nat} {s0 : Int32} : am_run 83 9 [some (.ref l0)] [.int s0] w = (am_gf w l0 7 0).bind fun v => am_run 83 13 [none] (v :: [.int s0]) w := by
  refine (bu (ls'' := [none]) (st' := [.ref l0, .int s0]) bf83_9 bf83_10 rfl rfl).trans ?_
  exact bh bf83_10 bf83_13 rfl (fun _ _ => am_ge_rf w) rfl
theorem bk83_13 {w : am_Wd} {s0 : Nat} {s1 : Int32} : am_run 83 13 [none] [.ref s0, .int s1] w = (am_rl w s0 (nI 2)).bind fun v => am_run 83 15 [none] (.long v :: [.int s1]) w := by
  refine (bu (ls'' := [none]) (st' := [.int (nI 2), .ref s0, .int s1]) bf83_13 bf83_14 rfl rfl).trans ?_
  exact bh bf83_14 bf83_15 rfl (fun _ _ => am_ge_rf w) rfl
theorem bk83_15 {w : am_Wd} {s0 : Int64} {s1 : Int32} : am_run 83 15 [none] [.long s0, .int s1] w = (am_x 50 [.long s0] w).bind fun r => bct r fun v w' => am_run 83 18 [none] (v.toList ++ [.int s1]) w' := by
  exact bkS bf83_15 bf83_18 rfl (by decide +kernel) (Nat.le_of_ble_eq_true rfl) rfl (bhd rfl)
theorem bk83_18 {w : am_Wd} {s0 : Int32} {s1 : Int32} : am_run 83 18 [none] [.int s0, .int s1] w = some (.inl (some (.int (s1 + s0))), w) := by
  refine (bu (ls'' := [none]) (st' := [.int (s1 + s0)]) bf83_18 bf83_19 rfl rfl).trans ?_
  exact am_e2 bf83_19 rfl (am_ge_rf w)
theorem bf84_0 : am_fetch (am_mth 84) 0 = some (.aload_n 0, 1, [], []) := by decide +kernel
theorem bf84_1 : am_fetch (am_mth 84) 1 = some (.getfield 21, 3, [0, 7, 1, 274], []) := by decide +kernel
theorem bf84_4 : am_fetch (am_mth 84) 4 = some (.iconst 1, 1, [], []) := by decide +kernel
theorem bf84_5 : am_fetch (am_mth 84) 5 = some (.laload, 1, [], []) := by decide +kernel
theorem bf84_6 : am_fetch (am_mth 84) 6 = some (.invokestatic 40, 3, [0, 50, 1, 391, 225, 26], []) := by decide +kernel
theorem bf84_9 : am_fetch (am_mth 84) 9 = some (.aload_n 0, 1, [], []) := by decide +kernel
theorem bf84_10 : am_fetch (am_mth 84) 10 = some (.getfield 21, 3, [0, 7, 1, 274], [0]) := by decide +kernel
theorem bf84_13 : am_fetch (am_mth 84) 13 = some (.iconst 2, 1, [], [0]) := by decide +kernel
theorem bf84_14 : am_fetch (am_mth 84) 14 = some (.laload, 1, [], [0]) := by decide +kernel
theorem bf84_15 : am_fetch (am_mth 84) 15 = some (.invokestatic 40, 3, [0, 50, 1, 391, 225, 26], [0]) := by decide +kernel
theorem bf84_18 : am_fetch (am_mth 84) 18 = some (.iadd, 1, [], [0]) := by decide +kernel
theorem bf84_19 : am_fetch (am_mth 84) 19 = some (.bipush 12, 2, [], [0]) := by decide +kernel
theorem bf84_21 : am_fetch (am_mth 84) 21 = some (.isub, 1, [], [0]) := by decide +kernel
theorem bf84_22 : am_fetch (am_mth 84) 22 = some (.ireturn, 1, [0], [0]) := by decide +kernel
theorem bk84_0 {w : am_Wd} {l0 : Nat} : am_run 84 0 [some (.ref l0)] [] w = (am_gf w l0 7 1).bind fun v => am_run 84 4 [some (.ref l0)] (v :: []) w := by
  refine (bu (ls'' := [some (.ref l0)]) (st' := [.ref l0]) bf84_0 bf84_1 rfl rfl).trans ?_
  exact bh bf84_1 bf84_4 rfl (fun _ _ => am_ge_rf w) rfl
theorem bk84_4 {w : am_Wd} {l0 : Nat} {s0 : Nat} : am_run 84 4 [some (.ref l0)] [.ref s0] w = (am_rl w s0 (nI 1)).bind fun v => am_run 84 6 [some (.ref l0)] (.long v :: []) w := by
  refine (bu (ls'' := [some (.ref l0)]) (st' := [.int (nI 1), .ref s0]) bf84_4 bf84_5 rfl rfl).trans ?_
  exact bh bf84_5 bf84_6 rfl (fun _ _ => am_ge_rf w) rfl
theorem bk84_6 {w : am_Wd} {l0 : Nat} {s0 : Int64} : am_run 84 6 [some (.ref l0)] [.long s0] w = (am_x 50 [.long s0] w).bind fun r => bct r fun v w' => am_run 84 9 [some (.ref l0)] (v.toList ++ []) w' := by
  exact bkS bf84_6 bf84_9 rfl (by decide +kernel) (Nat.le_of_ble_eq_true rfl) rfl (bhd rfl)
theorem bk84_9 {w : am_Wd} {l0 : Nat} {s0 : Int32} : am_run 84 9 [some (.ref l0)] [.int s0] w = (am_gf w l0 7 1).bind fun v => am_run 84 13 [none] (v :: [.int s0]) w := by
  refine (bu (ls'' := [none]) (st' := [.ref l0, .int s0]) bf84_9 bf84_10 rfl rfl).trans ?_
  exact bh bf84_10 bf84_13 rfl (fun _ _ => am_ge_rf w) rfl
theorem bk84_13 {w : am_Wd} {s0 : Nat} {s1 : Int32} : am_run 84 13 [none] [.ref s0, .int s1] w = (am_rl w s0 (nI 2)).bind fun v => am_run 84 15 [none] (.long v :: [.int s1]) w := by
  refine (bu (ls'' := [none]) (st' := [.int (nI 2), .ref s0, .int s1]) bf84_13 bf84_14 rfl rfl).trans ?_
  exact bh bf84_14 bf84_15 rfl (fun _ _ => am_ge_rf w) rfl
theorem bk84_15 {w : am_Wd} {s0 : Int64} {s1 : Int32} : am_run 84 15 [none] [.long s0, .int s1] w = (am_x 50 [.long s0] w).bind fun r => bct r fun v w' => am_run 84 18 [none] (v.toList ++ [.int s1]) w' := by
  exact bkS bf84_15 bf84_18 rfl (by decide +kernel) (Nat.le_of_ble_eq_true rfl) rfl (bhd rfl)
theorem bk84_18 {w : am_Wd} {s0 : Int32} {s1 : Int32} : am_run 84 18 [none] [.int s0, .int s1] w = some (.inl (some (.int ((s1 + s0) - (nI 12)))), w) := by
  refine (bu (ls'' := [none]) (st' := [.int (s1 + s0)]) bf84_18 bf84_19 rfl rfl).trans ?_
  refine (bu (ls'' := [none]) (st' := [.int (nI 12), .int (s1 + s0)]) bf84_19 bf84_21 rfl rfl).trans ?_
  refine (bu (ls'' := [none]) (st' := [.int ((s1 + s0) - (nI 12))]) bf84_21 bf84_22 rfl rfl).trans ?_
  exact am_e2 bf84_22 rfl (am_ge_rf w)
theorem bf87_0 : am_fetch (am_mth 87) 0 = some (.lconst 1, 1, [], [3, 4, 5]) := by decide +kernel
theorem bf87_1 : am_fetch (am_mth 87) 1 = some (.iload_n 1, 1, [], [3, 4, 5]) := by decide +kernel
theorem bf87_2 : am_fetch (am_mth 87) 2 = some (.lshl, 1, [], [1, 3, 4, 5]) := by decide +kernel
theorem bf87_3 : am_fetch (am_mth 87) 3 = some (.lstore_n 3, 1, [], [1, 3, 4, 5]) := by decide +kernel
theorem bf87_4 : am_fetch (am_mth 87) 4 = some (.iconst 0, 1, [], [1, 4, 5]) := by decide +kernel
theorem bf87_5 : am_fetch (am_mth 87) 5 = some (.istore 5, 2, [], [1, 4, 5]) := by decide +kernel
theorem bf87_7 : am_fetch (am_mth 87) 7 = some (.iload 5, 2, [], [1, 4]) := by decide +kernel
theorem bf87_9 : am_fetch (am_mth 87) 9 = some (.bipush 36, 2, [], [1, 4]) := by decide +kernel
theorem bf87_11 : am_fetch (am_mth 87) 11 = some (.if_icmp .ge 26, 3, [], [1, 4]) := by decide +kernel
theorem bf87_14 : am_fetch (am_mth 87) 14 = some (.lload_n 3, 1, [], [1, 4]) := by decide +kernel
theorem bf87_15 : am_fetch (am_mth 87) 15 = some (.iload_n 2, 1, [], [1, 4]) := by decide +kernel
theorem bf87_16 : am_fetch (am_mth 87) 16 = some (.invokestatic 24, 3, [0, 11, 2, 360, 361, 23], [1, 4]) := by decide +kernel
theorem bf87_19 : am_fetch (am_mth 87) 19 = some (.ifCond .eq 6, 3, [], [1, 4]) := by decide +kernel
theorem bf87_22 : am_fetch (am_mth 87) 22 = some (.iload 5, 2, [], [0, 1, 2, 3, 4]) := by decide +kernel
theorem bf87_24 : am_fetch (am_mth 87) 24 = some (.ireturn, 1, [0], [0, 1, 2, 3, 4, 5]) := by decide +kernel
theorem bf87_25 : am_fetch (am_mth 87) 25 = some (.aload_n 0, 1, [], [1, 4]) := by decide +kernel
theorem bf87_26 : am_fetch (am_mth 87) 26 = some (.lload_n 3, 1, [], [1, 4]) := by decide +kernel
theorem bf87_27 : am_fetch (am_mth 87) 27 = some (.invokevirtual 54, 3, [0, 23, 1, 7, 412, 414, 3, 29], [1, 3, 4]) := by decide +kernel
theorem bf87_30 : am_fetch (am_mth 87) 30 = some (.lstore_n 3, 1, [], [1, 3, 4]) := by decide +kernel
theorem bf87_31 : am_fetch (am_mth 87) 31 = some (.iinc 5 1, 3, [], [1, 4]) := by decide +kernel
theorem bf87_34 : am_fetch (am_mth 87) 34 = some (.goto (-27), 3, [], [1, 4]) := by decide +kernel
theorem bf87_37 : am_fetch (am_mth 87) 37 = some (.iconst (-1), 1, [], [0, 1, 2, 3, 4, 5]) := by decide +kernel
theorem bf87_38 : am_fetch (am_mth 87) 38 = some (.ireturn, 1, [0], [0, 1, 2, 3, 4, 5]) := by decide +kernel
theorem bk87_0 {w : am_Wd} {l0 : Nat} {l1 : Int32} {l2 : Int32} : am_run 87 0 [some (.ref l0), some (.int l1), some (.int l2), none, none, none] [] w = am_run 87 7 [some (.ref l0), none, some (.int l2), some (.long (bj_lshl (lN 1) l1)), none, some (.int (nI 0))] [] w := by
  refine (bu (ls'' := [some (.ref l0), some (.int l1), some (.int l2), none, none, none]) (st' := [.long (lN 1)]) bf87_0 bf87_1 rfl rfl).trans ?_
  refine (bu (ls'' := [some (.ref l0), none, some (.int l2), none, none, none]) (st' := [.int l1, .long (lN 1)]) bf87_1 bf87_2 rfl rfl).trans ?_
  refine (bu (ls'' := [some (.ref l0), none, some (.int l2), none, none, none]) (st' := [.long (bj_lshl (lN 1) l1)]) bf87_2 bf87_3 rfl rfl).trans ?_
  refine (bu (ls'' := [some (.ref l0), none, some (.int l2), some (.long (bj_lshl (lN 1) l1)), none, none]) (st' := []) bf87_3 bf87_4 rfl rfl).trans ?_
  refine (bu (ls'' := [some (.ref l0), none, some (.int l2), some (.long (bj_lshl (lN 1) l1)), none, none]) (st' := [.int (nI 0)]) bf87_4 bf87_5 rfl rfl).trans ?_
  refine (bu (ls'' := [some (.ref l0), none, some (.int l2), some (.long (bj_lshl (lN 1) l1)), none, some (.int (nI 0))]) (st' := []) bf87_5 bf87_7 rfl rfl).trans ?_
  rfl
theorem bk87_7 {w : am_Wd} {l0 : Nat} {l2 : Int32} {l3 : Int64} {l5 : Int32} : am_run 87 7 [some (.ref l0), none, some (.int l2), some (.long l3), none, some (.int l5)] [] w = if (nI 36) ≤ l5 then am_run 87 37 [none, none, none, none, none, none] [] w else am_run 87 14 [some (.ref l0), none, some (.int l2), some (.long l3), none, some (.int l5)] [] w := by
  refine (bu (ls'' := [some (.ref l0), none, some (.int l2), some (.long l3), none, some (.int l5)]) (st' := [.int l5]) bf87_7 bf87_9 rfl rfl).trans ?_
  refine (bu (ls'' := [some (.ref l0), none, some (.int l2), some (.long l3), none, some (.int l5)]) (st' := [.int (nI 36), .int l5]) bf87_9 bf87_11 rfl rfl).trans ?_
  exact bic bf87_11 rfl bf87_37 bf87_14 rfl rfl rfl
theorem bk87_37 {w : am_Wd}  : am_run 87 37 [none, none, none, none, none, none] [] w = some (.inl (some (.int (-1 : Int32))), w) := by
  refine (bu (ls'' := [none, none, none, none, none, none]) (st' := [.int (-1 : Int32)]) bf87_37 bf87_38 rfl rfl).trans ?_
  exact am_e2 bf87_38 rfl (am_ge_rf w)
theorem bk87_14 {w : am_Wd} {l0 : Nat} {l2 : Int32} {l3 : Int64} {l5 : Int32} : am_run 87 14 [some (.ref l0), none, some (.int l2), some (.long l3), none, some (.int l5)] [] w = (am_x 11 [.long l3, .int l2] w).bind fun r => bct r fun v w' => am_run 87 19 [some (.ref l0), none, some (.int l2), some (.long l3), none, some (.int l5)] (v.toList ++ []) w' := by
  refine (bu (ls'' := [some (.ref l0), none, some (.int l2), some (.long l3), none, some (.int l5)]) (st' := [.long l3]) bf87_14 bf87_15 rfl rfl).trans ?_
  refine (bu (ls'' := [some (.ref l0), none, some (.int l2), some (.long l3), none, some (.int l5)]) (st' := [.int l2, .long l3]) bf87_15 bf87_16 rfl rfl).trans ?_
  exact bkS bf87_16 bf87_19 rfl (by decide +kernel) (Nat.le_of_ble_eq_true rfl) rfl (bhd rfl)
theorem bk87_19 {w : am_Wd} {l0 : Nat} {l2 : Int32} {l3 : Int64} {l5 : Int32} {s0 : Int32} : am_run 87 19 [some (.ref l0), none, some (.int l2), some (.long l3), none, some (.int l5)] [.int s0] w = if s0 = nI 0 then am_run 87 25 [some (.ref l0), none, some (.int l2), some (.long l3), none, some (.int l5)] [] w else am_run 87 22 [none, none, none, none, none, some (.int l5)] [] w := by
  exact bifc bf87_19 rfl bf87_25 bf87_22 rfl rfl rfl
theorem bk87_25 {w : am_Wd} {l0 : Nat} {l2 : Int32} {l3 : Int64} {l5 : Int32} : am_run 87 25 [some (.ref l0), none, some (.int l2), some (.long l3), none, some (.int l5)] [] w = (am_kf w l0 7).bind fun _ => (am_x 23 [.ref l0, .long l3] w).bind fun r => bct r fun v w' => am_run 87 30 [some (.ref l0), none, some (.int l2), none, none, some (.int l5)] (v.toList ++ []) w' := by
  refine (bu (ls'' := [some (.ref l0), none, some (.int l2), some (.long l3), none, some (.int l5)]) (st' := [.ref l0]) bf87_25 bf87_26 rfl rfl).trans ?_
  refine (bu (ls'' := [some (.ref l0), none, some (.int l2), none, none, some (.int l5)]) (st' := [.long l3, .ref l0]) bf87_26 bf87_27 rfl rfl).trans ?_
  exact bkV bf87_27 bf87_30 rfl (by decide +kernel) (Nat.le_of_ble_eq_true rfl) rfl (bhd rfl)
theorem bk87_22 {w : am_Wd} {l5 : Int32} : am_run 87 22 [none, none, none, none, none, some (.int l5)] [] w = some (.inl (some (.int l5)), w) := by
  refine (bu (ls'' := [none, none, none, none, none, none]) (st' := [.int l5]) bf87_22 bf87_24 rfl rfl).trans ?_
  exact am_e2 bf87_24 rfl (am_ge_rf w)
theorem bk87_30 {w : am_Wd} {l0 : Nat} {l2 : Int32} {l5 : Int32} {s0 : Int64} : am_run 87 30 [some (.ref l0), none, some (.int l2), none, none, some (.int l5)] [.long s0] w = am_run 87 7 [some (.ref l0), none, some (.int l2), some (.long s0), none, some (.int (l5 + (nI 1)))] [] w := by
  refine (bu (ls'' := [some (.ref l0), none, some (.int l2), some (.long s0), none, some (.int l5)]) (st' := []) bf87_30 bf87_31 rfl rfl).trans ?_
  refine (bu (ls'' := [some (.ref l0), none, some (.int l2), some (.long s0), none, some (.int (l5 + (nI 1)))]) (st' := []) bf87_31 bf87_34 rfl rfl).trans ?_
  refine (bu (ls'' := [some (.ref l0), none, some (.int l2), some (.long s0), none, some (.int (l5 + (nI 1)))]) (st' := []) bf87_34 bf87_7 rfl rfl).trans ?_
  rfl
theorem bf88_0 : am_fetch (am_mth 88) 0 = some (.iconst 0, 1, [], [1, 2]) := by decide +kernel
theorem bf88_1 : am_fetch (am_mth 88) 1 = some (.istore_n 2, 1, [], [1, 2]) := by decide +kernel
theorem bf88_2 : am_fetch (am_mth 88) 2 = some (.iload_n 2, 1, [], [1]) := by decide +kernel
theorem bf88_3 : am_fetch (am_mth 88) 3 = some (.bipush 36, 2, [], [1]) := by decide +kernel
theorem bf88_5 : am_fetch (am_mth 88) 5 = some (.if_icmp .ge 19, 3, [], [1]) := by decide +kernel
theorem bf88_8 : am_fetch (am_mth 88) 8 = some (.lload_n 0, 1, [], [1]) := by decide +kernel
theorem bf88_9 : am_fetch (am_mth 88) 9 = some (.iload_n 2, 1, [], [1]) := by decide +kernel
theorem bf88_10 : am_fetch (am_mth 88) 10 = some (.invokestatic 24, 3, [0, 11, 2, 360, 361, 23], [1]) := by decide +kernel
theorem bf88_13 : am_fetch (am_mth 88) 13 = some (.ifCond .eq 5, 3, [], [1]) := by decide +kernel
theorem bf88_16 : am_fetch (am_mth 88) 16 = some (.iload_n 2, 1, [], [0, 1]) := by decide +kernel
theorem bf88_17 : am_fetch (am_mth 88) 17 = some (.ireturn, 1, [0], [0, 1, 2]) := by decide +kernel
theorem bf88_18 : am_fetch (am_mth 88) 18 = some (.iinc 2 1, 3, [], [1]) := by decide +kernel
theorem bf88_21 : am_fetch (am_mth 88) 21 = some (.goto (-19), 3, [], [1]) := by decide +kernel
theorem bf88_24 : am_fetch (am_mth 88) 24 = some (.iconst (-1), 1, [], [0, 1, 2]) := by decide +kernel
theorem bf88_25 : am_fetch (am_mth 88) 25 = some (.ireturn, 1, [0], [0, 1, 2]) := by decide +kernel
theorem bk88_0 {w : am_Wd} {l0 : Int64} : am_run 88 0 [some (.long l0), none, none] [] w = am_run 88 2 [some (.long l0), none, some (.int (nI 0))] [] w := by
  refine (bu (ls'' := [some (.long l0), none, none]) (st' := [.int (nI 0)]) bf88_0 bf88_1 rfl rfl).trans ?_
  refine (bu (ls'' := [some (.long l0), none, some (.int (nI 0))]) (st' := []) bf88_1 bf88_2 rfl rfl).trans ?_
  rfl
theorem bk88_2 {w : am_Wd} {l0 : Int64} {l2 : Int32} : am_run 88 2 [some (.long l0), none, some (.int l2)] [] w = if (nI 36) ≤ l2 then am_run 88 24 [none, none, none] [] w else am_run 88 8 [some (.long l0), none, some (.int l2)] [] w := by
  refine (bu (ls'' := [some (.long l0), none, some (.int l2)]) (st' := [.int l2]) bf88_2 bf88_3 rfl rfl).trans ?_
  refine (bu (ls'' := [some (.long l0), none, some (.int l2)]) (st' := [.int (nI 36), .int l2]) bf88_3 bf88_5 rfl rfl).trans ?_
  exact bic bf88_5 rfl bf88_24 bf88_8 rfl rfl rfl
theorem bk88_24 {w : am_Wd}  : am_run 88 24 [none, none, none] [] w = some (.inl (some (.int (-1 : Int32))), w) := by
  refine (bu (ls'' := [none, none, none]) (st' := [.int (-1 : Int32)]) bf88_24 bf88_25 rfl rfl).trans ?_
  exact am_e2 bf88_25 rfl (am_ge_rf w)
theorem bk88_8 {w : am_Wd} {l0 : Int64} {l2 : Int32} : am_run 88 8 [some (.long l0), none, some (.int l2)] [] w = (am_x 11 [.long l0, .int l2] w).bind fun r => bct r fun v w' => am_run 88 13 [some (.long l0), none, some (.int l2)] (v.toList ++ []) w' := by
  refine (bu (ls'' := [some (.long l0), none, some (.int l2)]) (st' := [.long l0]) bf88_8 bf88_9 rfl rfl).trans ?_
  refine (bu (ls'' := [some (.long l0), none, some (.int l2)]) (st' := [.int l2, .long l0]) bf88_9 bf88_10 rfl rfl).trans ?_
  exact bkS bf88_10 bf88_13 rfl (by decide +kernel) (Nat.le_of_ble_eq_true rfl) rfl (bhd rfl)
theorem bk88_13 {w : am_Wd} {l0 : Int64} {l2 : Int32} {s0 : Int32} : am_run 88 13 [some (.long l0), none, some (.int l2)] [.int s0] w = if s0 = nI 0 then am_run 88 18 [some (.long l0), none, some (.int l2)] [] w else am_run 88 16 [none, none, some (.int l2)] [] w := by
  exact bifc bf88_13 rfl bf88_18 bf88_16 rfl rfl rfl
theorem bk88_18 {w : am_Wd} {l0 : Int64} {l2 : Int32} : am_run 88 18 [some (.long l0), none, some (.int l2)] [] w = am_run 88 2 [some (.long l0), none, some (.int (l2 + (nI 1)))] [] w := by
  refine (bu (ls'' := [some (.long l0), none, some (.int (l2 + (nI 1)))]) (st' := []) bf88_18 bf88_21 rfl rfl).trans ?_
  refine (bu (ls'' := [some (.long l0), none, some (.int (l2 + (nI 1)))]) (st' := []) bf88_21 bf88_2 rfl rfl).trans ?_
  rfl
theorem bk88_16 {w : am_Wd} {l2 : Int32} : am_run 88 16 [none, none, some (.int l2)] [] w = some (.inl (some (.int l2)), w) := by
  refine (bu (ls'' := [none, none, none]) (st' := [.int l2]) bf88_16 bf88_17 rfl rfl).trans ?_
  exact am_e2 bf88_17 rfl (am_ge_rf w)
theorem bf89_0 : am_fetch (am_mth 89) 0 = some (.aload_n 0, 1, [], []) := by decide +kernel
theorem bf89_1 : am_fetch (am_mth 89) 1 = some (.invokespecial 1, 3, [1, 36, 37, 38], []) := by decide +kernel
theorem bf89_4 : am_fetch (am_mth 89) 4 = some (.aload_n 0, 1, [], []) := by decide +kernel
theorem bf89_5 : am_fetch (am_mth 89) 5 = some (.new 7, 3, [0, 5, 4, 39, 40, 18], []) := by decide +kernel
theorem bf89_8 : am_fetch (am_mth 89) 8 = some (.dup, 1, [], []) := by decide +kernel
theorem bf89_9 : am_fetch (am_mth 89) 9 = some (.invokespecial 9, 3, [0, 6, 0, 41, 42, 18], []) := by decide +kernel
theorem bf89_12 : am_fetch (am_mth 89) 12 = some (.putfield 10, 3, [0, 8, 0, 63], []) := by decide +kernel
theorem bf89_15 : am_fetch (am_mth 89) 15 = some (.aload_n 0, 1, [], []) := by decide +kernel
theorem bf89_16 : am_fetch (am_mth 89) 16 = some (.iconst 3, 1, [], []) := by decide +kernel
theorem bf89_17 : am_fetch (am_mth 89) 17 = some (.anewarray 16, 3, [4, 61, 62], []) := by decide +kernel
theorem bf89_20 : am_fetch (am_mth 89) 20 = some (.putfield 18, 3, [0, 8, 1, 64], []) := by decide +kernel
theorem bf89_23 : am_fetch (am_mth 89) 23 = some (.aload_n 0, 1, [], []) := by decide +kernel
theorem bf89_24 : am_fetch (am_mth 89) 24 = some (.bipush 7, 2, [], [0]) := by decide +kernel
theorem bf89_26 : am_fetch (am_mth 89) 26 = some (.putfield 22, 3, [0, 8, 4, 67], [0]) := by decide +kernel
theorem bf89_29 : am_fetch (am_mth 89) 29 = some (.return_, 1, [], [0]) := by decide +kernel
theorem bk89_0 {w : am_Wd} {l0 : Nat} : am_run 89 0 [some (.ref l0)] [] w = am_run 89 8 [some (.ref l0)] (.ref w.2.1 :: [.ref l0]) (am_nw w (.inr (5, am_df 5 4)) 4) := by
  refine (bu (ls'' := [some (.ref l0)]) (st' := [.ref l0]) bf89_0 bf89_1 rfl rfl).trans ?_
  refine (bu (ls'' := [some (.ref l0)]) (st' := []) bf89_1 bf89_4 rfl rfl).trans ?_
  refine (bu (ls'' := [some (.ref l0)]) (st' := [.ref l0]) bf89_4 bf89_5 rfl rfl).trans ?_
  exact bn bf89_5 bf89_8 rfl rfl (am_ge_nw _ _ _)
theorem bk89_8 {w : am_Wd} {l0 : Nat} {s0 : Nat} {s1 : Nat} : am_run 89 8 [some (.ref l0)] [.ref s0, .ref s1] w = (am_x 6 [.ref s0] w).bind fun r => bct r fun v w' => am_run 89 12 [some (.ref l0)] (v.toList ++ [.ref s0, .ref s1]) w' := by
  refine (bu (ls'' := [some (.ref l0)]) (st' := [.ref s0, .ref s0, .ref s1]) bf89_8 bf89_9 rfl rfl).trans ?_
  exact bkS bf89_9 bf89_12 rfl (by decide +kernel) (Nat.le_of_ble_eq_true rfl) rfl (bhd rfl)
theorem bk89_12 {w : am_Wd} {l0 : Nat} {s0 : Nat} {s1 : Nat} : am_run 89 12 [some (.ref l0)] [.ref s0, .ref s1] w = (am_pf w s1 8 0 (.ref s0)).bind fun w' => am_run 89 15 [some (.ref l0)] [] w' := by
  exact bh bf89_12 bf89_15 rfl (bge_pf) rfl
theorem bk89_15 {w : am_Wd} {l0 : Nat} : am_run 89 15 [some (.ref l0)] [] w = (am_na w 4 (nI 3)).bind fun w' => am_run 89 20 [some (.ref l0)] (.ref w.2.1 :: [.ref l0]) w' := by
  refine (bu (ls'' := [some (.ref l0)]) (st' := [.ref l0]) bf89_15 bf89_16 rfl rfl).trans ?_
  refine (bu (ls'' := [some (.ref l0)]) (st' := [.int (nI 3), .ref l0]) bf89_16 bf89_17 rfl rfl).trans ?_
  exact bh bf89_17 bf89_20 rfl (bge_na) rfl
theorem bk89_20 {w : am_Wd} {l0 : Nat} {s0 : Nat} {s1 : Nat} : am_run 89 20 [some (.ref l0)] [.ref s0, .ref s1] w = (am_pf w s1 8 1 (.ref s0)).bind fun w' => am_run 89 23 [some (.ref l0)] [] w' := by
  exact bh bf89_20 bf89_23 rfl (bge_pf) rfl
theorem bk89_23 {w : am_Wd} {l0 : Nat} : am_run 89 23 [some (.ref l0)] [] w = (am_pf w l0 8 4 (.int (nI 7))).bind fun w' => am_run 89 29 [none] [] w' := by
  refine (bu (ls'' := [none]) (st' := [.ref l0]) bf89_23 bf89_24 rfl rfl).trans ?_
  refine (bu (ls'' := [none]) (st' := [.int (nI 7), .ref l0]) bf89_24 bf89_26 rfl rfl).trans ?_
  exact bh bf89_26 bf89_29 rfl (bge_pf) rfl
theorem bk89_29 {w : am_Wd}  : am_run 89 29 [none] [] w = some (.inl none, w) := by
  exact am_e2 bf89_29 rfl (am_ge_rf w)
theorem bf90_0 : am_fetch (am_mth 90) 0 = some (.iload_n 1, 1, [], []) := by decide +kernel
theorem bf90_1 : am_fetch (am_mth 90) 1 = some (.invokestatic 26, 3, [0, 29, 1, 200, 201, 17], []) := by decide +kernel
theorem bf90_4 : am_fetch (am_mth 90) 4 = some (.aload_n 0, 1, [], []) := by decide +kernel
theorem bf90_5 : am_fetch (am_mth 90) 5 = some (.getfield 10, 3, [0, 8, 0, 63], []) := by decide +kernel
theorem bf90_8 : am_fetch (am_mth 90) 8 = some (.iload_n 1, 1, [], []) := by decide +kernel
theorem bf90_9 : am_fetch (am_mth 90) 9 = some (.iload_n 2, 1, [], [1]) := by decide +kernel
theorem bf90_10 : am_fetch (am_mth 90) 10 = some (.iload_n 3, 1, [], [1, 2]) := by decide +kernel
theorem bf90_11 : am_fetch (am_mth 90) 11 = some (.invokevirtual 62, 3, [0, 8, 3, 5, 219, 220, 221, 18], [1, 2, 3]) := by decide +kernel
theorem bf90_14 : am_fetch (am_mth 90) 14 = some (.aload_n 0, 1, [], [1, 2, 3]) := by decide +kernel
theorem bf90_15 : am_fetch (am_mth 90) 15 = some (.getfield 10, 3, [0, 8, 0, 63], [0, 1, 2, 3]) := by decide +kernel
theorem bf90_18 : am_fetch (am_mth 90) 18 = some (.getfield 66, 3, [1, 5, 3, 49], [0, 1, 2, 3]) := by decide +kernel
theorem bf90_21 : am_fetch (am_mth 90) 21 = some (.invokestatic 70, 3, [0, 50, 1, 224, 225, 26], [0, 1, 2, 3]) := by decide +kernel
theorem bf90_24 : am_fetch (am_mth 90) 24 = some (.ireturn, 1, [0], [0, 1, 2, 3]) := by decide +kernel
theorem bk90_0 {w : am_Wd} {l0 : Nat} {l1 : Int32} {l2 : Int32} {l3 : Int32} : am_run 90 0 [some (.ref l0), some (.int l1), some (.int l2), some (.int l3)] [] w = (am_x 29 [.int l1] w).bind fun r => bct r fun v w' => am_run 90 4 [some (.ref l0), some (.int l1), some (.int l2), some (.int l3)] (v.toList ++ []) w' := by
  refine (bu (ls'' := [some (.ref l0), some (.int l1), some (.int l2), some (.int l3)]) (st' := [.int l1]) bf90_0 bf90_1 rfl rfl).trans ?_
  exact bkS bf90_1 bf90_4 rfl (by decide +kernel) (Nat.le_of_ble_eq_true rfl) rfl (bhd rfl)
theorem bk90_4 {w : am_Wd} {l0 : Nat} {l1 : Int32} {l2 : Int32} {l3 : Int32} : am_run 90 4 [some (.ref l0), some (.int l1), some (.int l2), some (.int l3)] [] w = (am_gf w l0 8 0).bind fun v => am_run 90 8 [some (.ref l0), some (.int l1), some (.int l2), some (.int l3)] (v :: []) w := by
  refine (bu (ls'' := [some (.ref l0), some (.int l1), some (.int l2), some (.int l3)]) (st' := [.ref l0]) bf90_4 bf90_5 rfl rfl).trans ?_
  exact bh bf90_5 bf90_8 rfl (fun _ _ => am_ge_rf w) rfl
theorem bk90_8 {w : am_Wd} {l0 : Nat} {l1 : Int32} {l2 : Int32} {l3 : Int32} {s0 : Nat} : am_run 90 8 [some (.ref l0), some (.int l1), some (.int l2), some (.int l3)] [.ref s0] w = (am_kf w s0 5).bind fun _ => (am_x 8 [.ref s0, .int l1, .int l2, .int l3] w).bind fun r => bct r fun v w' => am_run 90 14 [some (.ref l0), none, none, none] (v.toList ++ []) w' := by
  refine (bu (ls'' := [some (.ref l0), none, some (.int l2), some (.int l3)]) (st' := [.int l1, .ref s0]) bf90_8 bf90_9 rfl rfl).trans ?_
  refine (bu (ls'' := [some (.ref l0), none, none, some (.int l3)]) (st' := [.int l2, .int l1, .ref s0]) bf90_9 bf90_10 rfl rfl).trans ?_
  refine (bu (ls'' := [some (.ref l0), none, none, none]) (st' := [.int l3, .int l2, .int l1, .ref s0]) bf90_10 bf90_11 rfl rfl).trans ?_
  exact bkV bf90_11 bf90_14 rfl (by decide +kernel) (Nat.le_of_ble_eq_true rfl) rfl (bhd rfl)
theorem bk90_14 {w : am_Wd} {l0 : Nat} : am_run 90 14 [some (.ref l0), none, none, none] [] w = (am_gf w l0 8 0).bind fun v => am_run 90 18 [none, none, none, none] (v :: []) w := by
  refine (bu (ls'' := [none, none, none, none]) (st' := [.ref l0]) bf90_14 bf90_15 rfl rfl).trans ?_
  exact bh bf90_15 bf90_18 rfl (fun _ _ => am_ge_rf w) rfl
theorem bk90_18 {w : am_Wd} {s0 : Nat} : am_run 90 18 [none, none, none, none] [.ref s0] w = (am_gf w s0 5 3).bind fun v => am_run 90 21 [none, none, none, none] (v :: []) w := by
  exact bh bf90_18 bf90_21 rfl (fun _ _ => am_ge_rf w) rfl
theorem bk90_21 {w : am_Wd} {s0 : Int64} : am_run 90 21 [none, none, none, none] [.long s0] w = (am_x 50 [.long s0] w).bind fun r => bct r fun v w' => am_run 90 24 [none, none, none, none] (v.toList ++ []) w' := by
  exact bkS bf90_21 bf90_24 rfl (by decide +kernel) (Nat.le_of_ble_eq_true rfl) rfl (bhd rfl)
theorem bk90_24 {w : am_Wd} {s0 : Int32} : am_run 90 24 [none, none, none, none] [.int s0] w = some (.inl (some (.int s0)), w) := by
  exact am_e2 bf90_24 rfl (am_ge_rf w)
theorem bf91_0 : am_fetch (am_mth 91) 0 = some (.aload_n 0, 1, [], [2]) := by decide +kernel
theorem bf91_1 : am_fetch (am_mth 91) 1 = some (.iload_n 1, 1, [], [0, 2]) := by decide +kernel
theorem bf91_2 : am_fetch (am_mth 91) 2 = some (.invokevirtual 89, 3, [0, 31, 1, 8, 343, 345, 1, 17], [0, 1, 2]) := by decide +kernel
theorem bf91_5 : am_fetch (am_mth 91) 5 = some (.astore_n 2, 1, [], [0, 1, 2]) := by decide +kernel
theorem bf91_6 : am_fetch (am_mth 91) 6 = some (.aload_n 2, 1, [], [0, 1]) := by decide +kernel
theorem bf91_7 : am_fetch (am_mth 91) 7 = some (.getfield 133, 3, [1, 6, 2, 305], [0, 1, 2]) := by decide +kernel
theorem bf91_10 : am_fetch (am_mth 91) 10 = some (.invokevirtual 274, 3, [0, 3, 0, 4, 541, 542, 543, 30], [0, 1, 2]) := by decide +kernel
theorem bf91_13 : am_fetch (am_mth 91) 13 = some (.invokestatic 70, 3, [0, 50, 1, 224, 225, 26], [0, 1, 2]) := by decide +kernel
theorem bf91_16 : am_fetch (am_mth 91) 16 = some (.i2d, 1, [], [0, 1, 2]) := by decide +kernel
theorem bf91_17 : am_fetch (am_mth 91) 17 = some (.ldc2_w 278, 3, [1, 4630263366890291200, 545], [0, 1, 2]) := by decide +kernel
theorem bf91_20 : am_fetch (am_mth 91) 20 = some (.ddiv, 1, [], [0, 1, 2]) := by decide +kernel
theorem bf91_21 : am_fetch (am_mth 91) 21 = some (.dreturn, 1, [], [0, 1, 2]) := by decide +kernel
theorem bk91_0 {w : am_Wd} {l0 : Nat} {l1 : Int32} : am_run 91 0 [some (.ref l0), some (.int l1), none] [] w = (am_kf w l0 8).bind fun _ => (am_x 31 [.ref l0, .int l1] w).bind fun r => bct r fun v w' => am_run 91 5 [none, none, none] (v.toList ++ []) w' := by
  refine (bu (ls'' := [none, some (.int l1), none]) (st' := [.ref l0]) bf91_0 bf91_1 rfl rfl).trans ?_
  refine (bu (ls'' := [none, none, none]) (st' := [.int l1, .ref l0]) bf91_1 bf91_2 rfl rfl).trans ?_
  exact bkV bf91_2 bf91_5 rfl (by decide +kernel) (Nat.le_of_ble_eq_true rfl) rfl (bhd rfl)
theorem bk91_5 {w : am_Wd} {s0 : Nat} : am_run 91 5 [none, none, none] [.ref s0] w = (am_gf w s0 6 2).bind fun v => am_run 91 10 [none, none, none] (v :: []) w := by
  refine (bu (ls'' := [none, none, some (.ref s0)]) (st' := []) bf91_5 bf91_6 rfl rfl).trans ?_
  refine (bu (ls'' := [none, none, none]) (st' := [.ref s0]) bf91_6 bf91_7 rfl rfl).trans ?_
  exact bh bf91_7 bf91_10 rfl (fun _ _ => am_ge_rf w) rfl
theorem bk91_10 {w : am_Wd} {s0 : Nat} : am_run 91 10 [none, none, none] [.ref s0] w = (am_kf w s0 4).bind fun _ => (am_x 3 [.ref s0] w).bind fun r => bct r fun v w' => am_run 91 13 [none, none, none] (v.toList ++ []) w' := by
  exact bkV bf91_10 bf91_13 rfl (by decide +kernel) (Nat.le_of_ble_eq_true rfl) rfl (bhd rfl)
theorem bk91_13 {w : am_Wd} {s0 : Int64} : am_run 91 13 [none, none, none] [.long s0] w = (am_x 50 [.long s0] w).bind fun r => bct r fun v w' => am_run 91 16 [none, none, none] (v.toList ++ []) w' := by
  exact bkS bf91_13 bf91_16 rfl (by decide +kernel) (Nat.le_of_ble_eq_true rfl) rfl (bhd rfl)
theorem bk91_16 {w : am_Wd} {s0 : Int32} (hn : (FP.ddiv (FP.i2d s0) (4630263366890291200 : UInt64)) &&& 0x7fffffffffffffff ≤ 0x7ff0000000000000) : am_run 91 16 [none, none, none] [.int s0] w = am_run 91 21 [none, none, none] [.double (FP.ddiv (FP.i2d s0) (4630263366890291200 : UInt64))] w := by
  refine (bu (ls'' := [none, none, none]) (st' := [.double (FP.i2d s0)]) bf91_16 bf91_17 rfl rfl).trans ?_
  refine (bu (ls'' := [none, none, none]) (st' := [.double (4630263366890291200 : UInt64), .double (FP.i2d s0)]) bf91_17 bf91_20 rfl rfl).trans ?_
  exact bdd (h := inferInstance) bf91_20 bf91_21 (fun h => by unfold am_stp; exact if_pos h) rfl hn
theorem bk91_21 {w : am_Wd} {s0 : UInt64} : am_run 91 21 [none, none, none] [.double s0] w = some (.inl (some (.double s0)), w) := by
  exact am_e2 bf91_21 rfl (am_ge_rf w)
theorem bf92_0 : am_fetch (am_mth 92) 0 = some (.iload_n 0, 1, [], []) := by decide +kernel
theorem bf92_1 : am_fetch (am_mth 92) 1 = some (.iload_n 1, 1, [], []) := by decide +kernel
theorem bf92_2 : am_fetch (am_mth 92) 2 = some (.if_icmp .lt 12, 3, [], [1]) := by decide +kernel
theorem bf92_5 : am_fetch (am_mth 92) 5 = some (.iload_n 0, 1, [], [1]) := by decide +kernel
theorem bf92_6 : am_fetch (am_mth 92) 6 = some (.iload_n 2, 1, [], [0, 1]) := by decide +kernel
theorem bf92_7 : am_fetch (am_mth 92) 7 = some (.if_icmp .gt 7, 3, [], [0, 1, 2]) := by decide +kernel
theorem bf92_10 : am_fetch (am_mth 92) 10 = some (.iconst 1, 1, [], [0, 1, 2]) := by decide +kernel
theorem bf92_11 : am_fetch (am_mth 92) 11 = some (.goto 4, 3, [], [0, 1, 2]) := by decide +kernel
theorem bf92_14 : am_fetch (am_mth 92) 14 = some (.iconst 0, 1, [], [0, 1, 2]) := by decide +kernel
theorem bf92_15 : am_fetch (am_mth 92) 15 = some (.invokestatic 39, 3, [0, 28, 1, 98, 99, 17], [0, 1, 2]) := by decide +kernel
theorem bf92_18 : am_fetch (am_mth 92) 18 = some (.return_, 1, [], [0, 1, 2]) := by decide +kernel
theorem bk92_0 {w : am_Wd} {l0 : Int32} {l1 : Int32} {l2 : Int32} : am_run 92 0 [some (.int l0), some (.int l1), some (.int l2)] [] w = if l0 < l1 then am_run 92 14 [none, none, none] [] w else am_run 92 5 [some (.int l0), none, some (.int l2)] [] w := by
  refine (bu (ls'' := [some (.int l0), some (.int l1), some (.int l2)]) (st' := [.int l0]) bf92_0 bf92_1 rfl rfl).trans ?_
  refine (bu (ls'' := [some (.int l0), none, some (.int l2)]) (st' := [.int l1, .int l0]) bf92_1 bf92_2 rfl rfl).trans ?_
  exact bic bf92_2 rfl bf92_14 bf92_5 rfl rfl rfl
theorem bk92_14 {w : am_Wd}  : am_run 92 14 [none, none, none] [] w = am_run 92 15 [none, none, none] [.int (nI 0)] w := by
  refine (bu (ls'' := [none, none, none]) (st' := [.int (nI 0)]) bf92_14 bf92_15 rfl rfl).trans ?_
  rfl
theorem bk92_5 {w : am_Wd} {l0 : Int32} {l2 : Int32} : am_run 92 5 [some (.int l0), none, some (.int l2)] [] w = if l2 < l0 then am_run 92 14 [none, none, none] [] w else am_run 92 10 [none, none, none] [] w := by
  refine (bu (ls'' := [none, none, some (.int l2)]) (st' := [.int l0]) bf92_5 bf92_6 rfl rfl).trans ?_
  refine (bu (ls'' := [none, none, none]) (st' := [.int l2, .int l0]) bf92_6 bf92_7 rfl rfl).trans ?_
  exact bic bf92_7 rfl bf92_14 bf92_10 rfl rfl rfl
theorem bk92_15 {w : am_Wd} {s0 : Int32} : am_run 92 15 [none, none, none] [.int s0] w = (am_x 28 [.int s0] w).bind fun r => bct r fun v w' => am_run 92 18 [none, none, none] (v.toList ++ []) w' := by
  exact bkS bf92_15 bf92_18 rfl (by decide +kernel) (Nat.le_of_ble_eq_true rfl) rfl (bhd rfl)
theorem bk92_10 {w : am_Wd}  : am_run 92 10 [none, none, none] [] w = am_run 92 15 [none, none, none] [.int (nI 1)] w := by
  refine (bu (ls'' := [none, none, none]) (st' := [.int (nI 1)]) bf92_10 bf92_11 rfl rfl).trans ?_
  refine (bu (ls'' := [none, none, none]) (st' := [.int (nI 1)]) bf92_11 bf92_15 rfl rfl).trans ?_
  rfl
theorem bk92_18 {w : am_Wd}  : am_run 92 18 [none, none, none] [] w = some (.inl none, w) := by
  exact am_e2 bf92_18 rfl (am_ge_rf w)
theorem bf93_0 : am_fetch (am_mth 93) 0 = some (.aload_n 0, 1, [], [1]) := by decide +kernel
theorem bf93_1 : am_fetch (am_mth 93) 1 = some (.getfield 22, 3, [0, 8, 4, 67], [1]) := by decide +kernel
theorem bf93_4 : am_fetch (am_mth 93) 4 = some (.istore_n 1, 1, [], [1]) := by decide +kernel
theorem bf93_5 : am_fetch (am_mth 93) 5 = some (.aload_n 0, 1, [], []) := by decide +kernel
theorem bf93_6 : am_fetch (am_mth 93) 6 = some (.iload_n 1, 1, [], []) := by decide +kernel
theorem bf93_7 : am_fetch (am_mth 93) 7 = some (.invokestatic 374, 3, [0, 27, 1, 612, 177, 17], []) := by decide +kernel
theorem bf93_10 : am_fetch (am_mth 93) 10 = some (.putfield 22, 3, [0, 8, 4, 67], []) := by decide +kernel
theorem bf93_13 : am_fetch (am_mth 93) 13 = some (.aload_n 0, 1, [], []) := by decide +kernel
theorem bf93_14 : am_fetch (am_mth 93) 14 = some (.dup, 1, [], [0]) := by decide +kernel
theorem bf93_15 : am_fetch (am_mth 93) 15 = some (.getfield 220, 3, [0, 8, 5, 68], [0]) := by decide +kernel
theorem bf93_18 : am_fetch (am_mth 93) 18 = some (.iconst 1, 1, [], [0]) := by decide +kernel
theorem bf93_19 : am_fetch (am_mth 93) 19 = some (.iadd, 1, [], [0]) := by decide +kernel
theorem bf93_20 : am_fetch (am_mth 93) 20 = some (.putfield 220, 3, [0, 8, 5, 68], [0]) := by decide +kernel
theorem bf93_23 : am_fetch (am_mth 93) 23 = some (.iload_n 1, 1, [], [0]) := by decide +kernel
theorem bf93_24 : am_fetch (am_mth 93) 24 = some (.ireturn, 1, [0], [0, 1]) := by decide +kernel
theorem bk93_0 {w : am_Wd} {l0 : Nat} : am_run 93 0 [some (.ref l0), none] [] w = (am_gf w l0 8 4).bind fun v => am_run 93 4 [some (.ref l0), none] (v :: []) w := by
  refine (bu (ls'' := [some (.ref l0), none]) (st' := [.ref l0]) bf93_0 bf93_1 rfl rfl).trans ?_
  exact bh bf93_1 bf93_4 rfl (fun _ _ => am_ge_rf w) rfl
theorem bk93_4 {w : am_Wd} {l0 : Nat} {s0 : Int32} : am_run 93 4 [some (.ref l0), none] [.int s0] w = (am_x 27 [.int s0] w).bind fun r => bct r fun v w' => am_run 93 10 [some (.ref l0), some (.int s0)] (v.toList ++ [.ref l0]) w' := by
  refine (bu (ls'' := [some (.ref l0), some (.int s0)]) (st' := []) bf93_4 bf93_5 rfl rfl).trans ?_
  refine (bu (ls'' := [some (.ref l0), some (.int s0)]) (st' := [.ref l0]) bf93_5 bf93_6 rfl rfl).trans ?_
  refine (bu (ls'' := [some (.ref l0), some (.int s0)]) (st' := [.int s0, .ref l0]) bf93_6 bf93_7 rfl rfl).trans ?_
  exact bkS bf93_7 bf93_10 rfl (by decide +kernel) (Nat.le_of_ble_eq_true rfl) rfl (bhd rfl)
theorem bk93_10 {w : am_Wd} {l0 : Nat} {l1 : Int32} {s0 : Int32} {s1 : Nat} : am_run 93 10 [some (.ref l0), some (.int l1)] [.int s0, .ref s1] w = (am_pf w s1 8 4 (.int s0)).bind fun w' => am_run 93 13 [some (.ref l0), some (.int l1)] [] w' := by
  exact bh bf93_10 bf93_13 rfl (bge_pf) rfl
theorem bk93_13 {w : am_Wd} {l0 : Nat} {l1 : Int32} : am_run 93 13 [some (.ref l0), some (.int l1)] [] w = (am_gf w l0 8 5).bind fun v => am_run 93 18 [none, some (.int l1)] (v :: [.ref l0]) w := by
  refine (bu (ls'' := [none, some (.int l1)]) (st' := [.ref l0]) bf93_13 bf93_14 rfl rfl).trans ?_
  refine (bu (ls'' := [none, some (.int l1)]) (st' := [.ref l0, .ref l0]) bf93_14 bf93_15 rfl rfl).trans ?_
  exact bh bf93_15 bf93_18 rfl (fun _ _ => am_ge_rf w) rfl
theorem bk93_18 {w : am_Wd} {l1 : Int32} {s0 : Int32} {s1 : Nat} : am_run 93 18 [none, some (.int l1)] [.int s0, .ref s1] w = (am_pf w s1 8 5 (.int (s0 + (nI 1)))).bind fun w' => am_run 93 23 [none, some (.int l1)] [] w' := by
  refine (bu (ls'' := [none, some (.int l1)]) (st' := [.int (nI 1), .int s0, .ref s1]) bf93_18 bf93_19 rfl rfl).trans ?_
  refine (bu (ls'' := [none, some (.int l1)]) (st' := [.int (s0 + (nI 1)), .ref s1]) bf93_19 bf93_20 rfl rfl).trans ?_
  exact bh bf93_20 bf93_23 rfl (bge_pf) rfl
theorem bk93_23 {w : am_Wd} {l1 : Int32} : am_run 93 23 [none, some (.int l1)] [] w = some (.inl (some (.int l1)), w) := by
  refine (bu (ls'' := [none, none]) (st' := [.int l1]) bf93_23 bf93_24 rfl rfl).trans ?_
  exact am_e2 bf93_24 rfl (am_ge_rf w)
theorem bf118_0 : am_fetch (am_mth 118) 0 = some (.aload_n 0, 1, [], [1]) := by decide +kernel
theorem bf118_1 : am_fetch (am_mth 118) 1 = some (.invokevirtual 29, 3, [0, 72, 0, 4, 504, 378, 379, 30], [1]) := by decide +kernel
theorem bf118_4 : am_fetch (am_mth 118) 4 = some (.iconst 1, 1, [], [1]) := by decide +kernel
theorem bf118_5 : am_fetch (am_mth 118) 5 = some (.if_icmp .eq 5, 3, [], [1]) := by decide +kernel
theorem bf118_8 : am_fetch (am_mth 118) 8 = some (.iconst (-1), 1, [], [0, 1]) := by decide +kernel
theorem bf118_9 : am_fetch (am_mth 118) 9 = some (.ireturn, 1, [0], [0, 1]) := by decide +kernel
theorem bf118_10 : am_fetch (am_mth 118) 10 = some (.iconst 0, 1, [], [1]) := by decide +kernel
theorem bf118_11 : am_fetch (am_mth 118) 11 = some (.istore_n 1, 1, [], [1]) := by decide +kernel
theorem bf118_12 : am_fetch (am_mth 118) 12 = some (.iload_n 1, 1, [], []) := by decide +kernel
theorem bf118_13 : am_fetch (am_mth 118) 13 = some (.sipush 144, 3, [], []) := by decide +kernel
theorem bf118_16 : am_fetch (am_mth 118) 16 = some (.if_icmp .ge 28, 3, [], []) := by decide +kernel
theorem bf118_19 : am_fetch (am_mth 118) 19 = some (.aload_n 0, 1, [], []) := by decide +kernel
theorem bf118_20 : am_fetch (am_mth 118) 20 = some (.getfield 9, 3, [0, 4, 0, 287], []) := by decide +kernel
theorem bf118_23 : am_fetch (am_mth 118) 23 = some (.iload_n 1, 1, [], []) := by decide +kernel
theorem bf118_24 : am_fetch (am_mth 118) 24 = some (.iconst 4, 1, [], []) := by decide +kernel
theorem bf118_25 : am_fetch (am_mth 118) 25 = some (.irem, 1, [], []) := by decide +kernel
theorem bf118_26 : am_fetch (am_mth 118) 26 = some (.laload, 1, [], []) := by decide +kernel
theorem bf118_27 : am_fetch (am_mth 118) 27 = some (.iload_n 1, 1, [], []) := by decide +kernel
theorem bf118_28 : am_fetch (am_mth 118) 28 = some (.iconst 4, 1, [], []) := by decide +kernel
theorem bf118_29 : am_fetch (am_mth 118) 29 = some (.idiv, 1, [], []) := by decide +kernel
theorem bf118_30 : am_fetch (am_mth 118) 30 = some (.invokestatic 25, 3, [0, 11, 2, 505, 361, 23], []) := by decide +kernel
theorem bf118_33 : am_fetch (am_mth 118) 33 = some (.ifCond .eq 5, 3, [], []) := by decide +kernel
theorem bf118_36 : am_fetch (am_mth 118) 36 = some (.iload_n 1, 1, [], [0]) := by decide +kernel
theorem bf118_37 : am_fetch (am_mth 118) 37 = some (.ireturn, 1, [0], [0, 1]) := by decide +kernel
theorem bf118_38 : am_fetch (am_mth 118) 38 = some (.iinc 1 1, 3, [], []) := by decide +kernel
theorem bf118_41 : am_fetch (am_mth 118) 41 = some (.goto (-29), 3, [], []) := by decide +kernel
theorem bf118_44 : am_fetch (am_mth 118) 44 = some (.iconst (-1), 1, [], [0, 1]) := by decide +kernel
theorem bf118_45 : am_fetch (am_mth 118) 45 = some (.ireturn, 1, [0], [0, 1]) := by decide +kernel
theorem bk118_0 {w : am_Wd} {l0 : Nat} : am_run 118 0 [some (.ref l0), none] [] w = (am_kf w l0 4).bind fun _ => (am_x 72 [.ref l0] w).bind fun r => bct r fun v w' => am_run 118 4 [some (.ref l0), none] (v.toList ++ []) w' := by
  refine (bu (ls'' := [some (.ref l0), none]) (st' := [.ref l0]) bf118_0 bf118_1 rfl rfl).trans ?_
  exact bkV bf118_1 bf118_4 rfl (by decide +kernel) (Nat.le_of_ble_eq_true rfl) rfl (bhd rfl)
theorem bk118_4 {w : am_Wd} {l0 : Nat} {s0 : Int32} : am_run 118 4 [some (.ref l0), none] [.int s0] w = if s0 = (nI 1) then am_run 118 10 [some (.ref l0), none] [] w else am_run 118 8 [none, none] [] w := by
  refine (bu (ls'' := [some (.ref l0), none]) (st' := [.int (nI 1), .int s0]) bf118_4 bf118_5 rfl rfl).trans ?_
  exact bic bf118_5 rfl bf118_10 bf118_8 rfl rfl rfl
theorem bk118_10 {w : am_Wd} {l0 : Nat} : am_run 118 10 [some (.ref l0), none] [] w = am_run 118 12 [some (.ref l0), some (.int (nI 0))] [] w := by
  refine (bu (ls'' := [some (.ref l0), none]) (st' := [.int (nI 0)]) bf118_10 bf118_11 rfl rfl).trans ?_
  refine (bu (ls'' := [some (.ref l0), some (.int (nI 0))]) (st' := []) bf118_11 bf118_12 rfl rfl).trans ?_
  rfl
theorem bk118_8 {w : am_Wd}  : am_run 118 8 [none, none] [] w = some (.inl (some (.int (-1 : Int32))), w) := by
  refine (bu (ls'' := [none, none]) (st' := [.int (-1 : Int32)]) bf118_8 bf118_9 rfl rfl).trans ?_
  exact am_e2 bf118_9 rfl (am_ge_rf w)
theorem bk118_12 {w : am_Wd} {l0 : Nat} {l1 : Int32} : am_run 118 12 [some (.ref l0), some (.int l1)] [] w = if (nI 144) ≤ l1 then am_run 118 44 [none, none] [] w else am_run 118 19 [some (.ref l0), some (.int l1)] [] w := by
  refine (bu (ls'' := [some (.ref l0), some (.int l1)]) (st' := [.int l1]) bf118_12 bf118_13 rfl rfl).trans ?_
  refine (bu (ls'' := [some (.ref l0), some (.int l1)]) (st' := [.int (nI 144), .int l1]) bf118_13 bf118_16 rfl rfl).trans ?_
  exact bic bf118_16 rfl bf118_44 bf118_19 rfl rfl rfl
theorem bk118_44 {w : am_Wd}  : am_run 118 44 [none, none] [] w = some (.inl (some (.int (-1 : Int32))), w) := by
  refine (bu (ls'' := [none, none]) (st' := [.int (-1 : Int32)]) bf118_44 bf118_45 rfl rfl).trans ?_
  exact am_e2 bf118_45 rfl (am_ge_rf w)
theorem bk118_19 {w : am_Wd} {l0 : Nat} {l1 : Int32} : am_run 118 19 [some (.ref l0), some (.int l1)] [] w = (am_gf w l0 4 0).bind fun v => am_run 118 23 [some (.ref l0), some (.int l1)] (v :: []) w := by
  refine (bu (ls'' := [some (.ref l0), some (.int l1)]) (st' := [.ref l0]) bf118_19 bf118_20 rfl rfl).trans ?_
  exact bh bf118_20 bf118_23 rfl (fun _ _ => am_ge_rf w) rfl
theorem bk118_23 {w : am_Wd} {l0 : Nat} {l1 : Int32} {s0 : Nat} : am_run 118 23 [some (.ref l0), some (.int l1)] [.ref s0] w = (am_rl w s0 (bj_irem l1 (nI 4))).bind fun v => am_run 118 27 [some (.ref l0), some (.int l1)] (.long v :: []) w := by
  refine (bu (ls'' := [some (.ref l0), some (.int l1)]) (st' := [.int l1, .ref s0]) bf118_23 bf118_24 rfl rfl).trans ?_
  refine (bu (ls'' := [some (.ref l0), some (.int l1)]) (st' := [.int (nI 4), .int l1, .ref s0]) bf118_24 bf118_25 rfl rfl).trans ?_
  refine (bu (ls'' := [some (.ref l0), some (.int l1)]) (st' := [.int (bj_irem l1 (nI 4)), .ref s0]) bf118_25 bf118_26 rfl rfl).trans ?_
  exact bh bf118_26 bf118_27 rfl (fun _ _ => am_ge_rf w) rfl
theorem bk118_27 {w : am_Wd} {l0 : Nat} {l1 : Int32} {s0 : Int64} : am_run 118 27 [some (.ref l0), some (.int l1)] [.long s0] w = (am_x 11 [.long s0, .int (l1 / (nI 4))] w).bind fun r => bct r fun v w' => am_run 118 33 [some (.ref l0), some (.int l1)] (v.toList ++ []) w' := by
  refine (bu (ls'' := [some (.ref l0), some (.int l1)]) (st' := [.int l1, .long s0]) bf118_27 bf118_28 rfl rfl).trans ?_
  refine (bu (ls'' := [some (.ref l0), some (.int l1)]) (st' := [.int (nI 4), .int l1, .long s0]) bf118_28 bf118_29 rfl rfl).trans ?_
  refine (bu (ls'' := [some (.ref l0), some (.int l1)]) (st' := [.int (l1 / (nI 4)), .long s0]) bf118_29 bf118_30 rfl rfl).trans ?_
  exact bkS bf118_30 bf118_33 rfl (by decide +kernel) (Nat.le_of_ble_eq_true rfl) rfl (bhd rfl)
theorem bk118_33 {w : am_Wd} {l0 : Nat} {l1 : Int32} {s0 : Int32} : am_run 118 33 [some (.ref l0), some (.int l1)] [.int s0] w = if s0 = nI 0 then am_run 118 38 [some (.ref l0), some (.int l1)] [] w else am_run 118 36 [none, some (.int l1)] [] w := by
  exact bifc bf118_33 rfl bf118_38 bf118_36 rfl rfl rfl
theorem bk118_38 {w : am_Wd} {l0 : Nat} {l1 : Int32} : am_run 118 38 [some (.ref l0), some (.int l1)] [] w = am_run 118 12 [some (.ref l0), some (.int (l1 + (nI 1)))] [] w := by
  refine (bu (ls'' := [some (.ref l0), some (.int (l1 + (nI 1)))]) (st' := []) bf118_38 bf118_41 rfl rfl).trans ?_
  refine (bu (ls'' := [some (.ref l0), some (.int (l1 + (nI 1)))]) (st' := []) bf118_41 bf118_12 rfl rfl).trans ?_
  rfl
theorem bk118_36 {w : am_Wd} {l1 : Int32} : am_run 118 36 [none, some (.int l1)] [] w = some (.inl (some (.int l1)), w) := by
  refine (bu (ls'' := [none, none]) (st' := [.int l1]) bf118_36 bf118_37 rfl rfl).trans ?_
  exact am_e2 bf118_37 rfl (am_ge_rf w)
theorem bf119_0 : am_fetch (am_mth 119) 0 = some (.iconst 0, 1, [], [3]) := by decide +kernel
theorem bf119_1 : am_fetch (am_mth 119) 1 = some (.istore_n 3, 1, [], [3]) := by decide +kernel
theorem bf119_2 : am_fetch (am_mth 119) 2 = some (.iload_n 3, 1, [], []) := by decide +kernel
theorem bf119_3 : am_fetch (am_mth 119) 3 = some (.iconst 4, 1, [], []) := by decide +kernel
theorem bf119_4 : am_fetch (am_mth 119) 4 = some (.if_icmp .ge 22, 3, [], []) := by decide +kernel
theorem bf119_7 : am_fetch (am_mth 119) 7 = some (.aload_n 0, 1, [], []) := by decide +kernel
theorem bf119_8 : am_fetch (am_mth 119) 8 = some (.getfield 9, 3, [0, 4, 0, 287], []) := by decide +kernel
theorem bf119_11 : am_fetch (am_mth 119) 11 = some (.iload_n 3, 1, [], []) := by decide +kernel
theorem bf119_12 : am_fetch (am_mth 119) 12 = some (.aload_n 0, 1, [], []) := by decide +kernel
theorem bf119_13 : am_fetch (am_mth 119) 13 = some (.iload_n 3, 1, [], []) := by decide +kernel
theorem bf119_14 : am_fetch (am_mth 119) 14 = some (.iload_n 1, 1, [], []) := by decide +kernel
theorem bf119_15 : am_fetch (am_mth 119) 15 = some (.aload_n 2, 1, [], []) := by decide +kernel
theorem bf119_16 : am_fetch (am_mth 119) 16 = some (.invokevirtual 47, 3, [0, 74, 3, 4, 428, 430, 4, 30], []) := by decide +kernel
theorem bf119_19 : am_fetch (am_mth 119) 19 = some (.lastore, 1, [], []) := by decide +kernel
theorem bf119_20 : am_fetch (am_mth 119) 20 = some (.iinc 3 1, 3, [], []) := by decide +kernel
theorem bf119_23 : am_fetch (am_mth 119) 23 = some (.goto (-21), 3, [], []) := by decide +kernel
theorem bf119_26 : am_fetch (am_mth 119) 26 = some (.return_, 1, [], [0, 1, 2, 3]) := by decide +kernel
theorem bk119_0 {w : am_Wd} {l0 : Nat} {l1 : Int32} {l2 : Nat} : am_run 119 0 [some (.ref l0), some (.int l1), some (.ref l2), none] [] w = am_run 119 2 [some (.ref l0), some (.int l1), some (.ref l2), some (.int (nI 0))] [] w := by
  refine (bu (ls'' := [some (.ref l0), some (.int l1), some (.ref l2), none]) (st' := [.int (nI 0)]) bf119_0 bf119_1 rfl rfl).trans ?_
  refine (bu (ls'' := [some (.ref l0), some (.int l1), some (.ref l2), some (.int (nI 0))]) (st' := []) bf119_1 bf119_2 rfl rfl).trans ?_
  rfl
theorem bk119_2 {w : am_Wd} {l0 : Nat} {l1 : Int32} {l2 : Nat} {l3 : Int32} : am_run 119 2 [some (.ref l0), some (.int l1), some (.ref l2), some (.int l3)] [] w = if (nI 4) ≤ l3 then am_run 119 26 [none, none, none, none] [] w else am_run 119 7 [some (.ref l0), some (.int l1), some (.ref l2), some (.int l3)] [] w := by
  refine (bu (ls'' := [some (.ref l0), some (.int l1), some (.ref l2), some (.int l3)]) (st' := [.int l3]) bf119_2 bf119_3 rfl rfl).trans ?_
  refine (bu (ls'' := [some (.ref l0), some (.int l1), some (.ref l2), some (.int l3)]) (st' := [.int (nI 4), .int l3]) bf119_3 bf119_4 rfl rfl).trans ?_
  exact bic bf119_4 rfl bf119_26 bf119_7 rfl rfl rfl
theorem bk119_26 {w : am_Wd}  : am_run 119 26 [none, none, none, none] [] w = some (.inl none, w) := by
  exact am_e2 bf119_26 rfl (am_ge_rf w)
theorem bk119_7 {w : am_Wd} {l0 : Nat} {l1 : Int32} {l2 : Nat} {l3 : Int32} : am_run 119 7 [some (.ref l0), some (.int l1), some (.ref l2), some (.int l3)] [] w = (am_gf w l0 4 0).bind fun v => am_run 119 11 [some (.ref l0), some (.int l1), some (.ref l2), some (.int l3)] (v :: []) w := by
  refine (bu (ls'' := [some (.ref l0), some (.int l1), some (.ref l2), some (.int l3)]) (st' := [.ref l0]) bf119_7 bf119_8 rfl rfl).trans ?_
  exact bh bf119_8 bf119_11 rfl (fun _ _ => am_ge_rf w) rfl
theorem bk119_11 {w : am_Wd} {l0 : Nat} {l1 : Int32} {l2 : Nat} {l3 : Int32} {s0 : Nat} : am_run 119 11 [some (.ref l0), some (.int l1), some (.ref l2), some (.int l3)] [.ref s0] w = (am_kf w l0 4).bind fun _ => (am_x 74 [.ref l0, .int l3, .int l1, .ref l2] w).bind fun r => bct r fun v w' => am_run 119 19 [some (.ref l0), some (.int l1), some (.ref l2), some (.int l3)] (v.toList ++ [.int l3, .ref s0]) w' := by
  refine (bu (ls'' := [some (.ref l0), some (.int l1), some (.ref l2), some (.int l3)]) (st' := [.int l3, .ref s0]) bf119_11 bf119_12 rfl rfl).trans ?_
  refine (bu (ls'' := [some (.ref l0), some (.int l1), some (.ref l2), some (.int l3)]) (st' := [.ref l0, .int l3, .ref s0]) bf119_12 bf119_13 rfl rfl).trans ?_
  refine (bu (ls'' := [some (.ref l0), some (.int l1), some (.ref l2), some (.int l3)]) (st' := [.int l3, .ref l0, .int l3, .ref s0]) bf119_13 bf119_14 rfl rfl).trans ?_
  refine (bu (ls'' := [some (.ref l0), some (.int l1), some (.ref l2), some (.int l3)]) (st' := [.int l1, .int l3, .ref l0, .int l3, .ref s0]) bf119_14 bf119_15 rfl rfl).trans ?_
  refine (bu (ls'' := [some (.ref l0), some (.int l1), some (.ref l2), some (.int l3)]) (st' := [.ref l2, .int l1, .int l3, .ref l0, .int l3, .ref s0]) bf119_15 bf119_16 rfl rfl).trans ?_
  exact bkV bf119_16 bf119_19 rfl (by decide +kernel) (Nat.le_of_ble_eq_true rfl) rfl (bhd rfl)
theorem bk119_19 {w : am_Wd} {l0 : Nat} {l1 : Int32} {l2 : Nat} {l3 : Int32} {s0 : Int64} {s1 : Int32} {s2 : Nat} : am_run 119 19 [some (.ref l0), some (.int l1), some (.ref l2), some (.int l3)] [.long s0, .int s1, .ref s2] w = (am_wl w s2 s1 s0).bind fun w' => am_run 119 20 [some (.ref l0), some (.int l1), some (.ref l2), some (.int l3)] [] w' := by
  exact bh bf119_19 bf119_20 rfl (bge_wl) rfl
theorem bk119_20 {w : am_Wd} {l0 : Nat} {l1 : Int32} {l2 : Nat} {l3 : Int32} : am_run 119 20 [some (.ref l0), some (.int l1), some (.ref l2), some (.int l3)] [] w = am_run 119 2 [some (.ref l0), some (.int l1), some (.ref l2), some (.int (l3 + (nI 1)))] [] w := by
  refine (bu (ls'' := [some (.ref l0), some (.int l1), some (.ref l2), some (.int (l3 + (nI 1)))]) (st' := []) bf119_20 bf119_23 rfl rfl).trans ?_
  refine (bu (ls'' := [some (.ref l0), some (.int l1), some (.ref l2), some (.int (l3 + (nI 1)))]) (st' := []) bf119_23 bf119_2 rfl rfl).trans ?_
  rfl
theorem bf120_0 : am_fetch (am_mth 120) 0 = some (.iconst 0, 1, [], [3]) := by decide +kernel
theorem bf120_1 : am_fetch (am_mth 120) 1 = some (.istore_n 3, 1, [], [3]) := by decide +kernel
theorem bf120_2 : am_fetch (am_mth 120) 2 = some (.iload_n 3, 1, [], []) := by decide +kernel
theorem bf120_3 : am_fetch (am_mth 120) 3 = some (.iconst 4, 1, [], []) := by decide +kernel
theorem bf120_4 : am_fetch (am_mth 120) 4 = some (.if_icmp .ge 22, 3, [], []) := by decide +kernel
theorem bf120_7 : am_fetch (am_mth 120) 7 = some (.aload_n 0, 1, [], []) := by decide +kernel
theorem bf120_8 : am_fetch (am_mth 120) 8 = some (.getfield 9, 3, [0, 4, 0, 287], []) := by decide +kernel
theorem bf120_11 : am_fetch (am_mth 120) 11 = some (.iload_n 3, 1, [], []) := by decide +kernel
theorem bf120_12 : am_fetch (am_mth 120) 12 = some (.aload_n 0, 1, [], []) := by decide +kernel
theorem bf120_13 : am_fetch (am_mth 120) 13 = some (.iload_n 3, 1, [], []) := by decide +kernel
theorem bf120_14 : am_fetch (am_mth 120) 14 = some (.iload_n 1, 1, [], []) := by decide +kernel
theorem bf120_15 : am_fetch (am_mth 120) 15 = some (.aload_n 2, 1, [], []) := by decide +kernel
theorem bf120_16 : am_fetch (am_mth 120) 16 = some (.invokevirtual 51, 3, [0, 75, 3, 4, 448, 450, 5, 30], []) := by decide +kernel
theorem bf120_19 : am_fetch (am_mth 120) 19 = some (.lastore, 1, [], []) := by decide +kernel
theorem bf120_20 : am_fetch (am_mth 120) 20 = some (.iinc 3 1, 3, [], []) := by decide +kernel
theorem bf120_23 : am_fetch (am_mth 120) 23 = some (.goto (-21), 3, [], []) := by decide +kernel
theorem bf120_26 : am_fetch (am_mth 120) 26 = some (.return_, 1, [], [0, 1, 2, 3]) := by decide +kernel
theorem bk120_0 {w : am_Wd} {l0 : Nat} {l1 : Int32} {l2 : Nat} : am_run 120 0 [some (.ref l0), some (.int l1), some (.ref l2), none] [] w = am_run 120 2 [some (.ref l0), some (.int l1), some (.ref l2), some (.int (nI 0))] [] w := by
  refine (bu (ls'' := [some (.ref l0), some (.int l1), some (.ref l2), none]) (st' := [.int (nI 0)]) bf120_0 bf120_1 rfl rfl).trans ?_
  refine (bu (ls'' := [some (.ref l0), some (.int l1), some (.ref l2), some (.int (nI 0))]) (st' := []) bf120_1 bf120_2 rfl rfl).trans ?_
  rfl
theorem bk120_2 {w : am_Wd} {l0 : Nat} {l1 : Int32} {l2 : Nat} {l3 : Int32} : am_run 120 2 [some (.ref l0), some (.int l1), some (.ref l2), some (.int l3)] [] w = if (nI 4) ≤ l3 then am_run 120 26 [none, none, none, none] [] w else am_run 120 7 [some (.ref l0), some (.int l1), some (.ref l2), some (.int l3)] [] w := by
  refine (bu (ls'' := [some (.ref l0), some (.int l1), some (.ref l2), some (.int l3)]) (st' := [.int l3]) bf120_2 bf120_3 rfl rfl).trans ?_
  refine (bu (ls'' := [some (.ref l0), some (.int l1), some (.ref l2), some (.int l3)]) (st' := [.int (nI 4), .int l3]) bf120_3 bf120_4 rfl rfl).trans ?_
  exact bic bf120_4 rfl bf120_26 bf120_7 rfl rfl rfl
theorem bk120_26 {w : am_Wd}  : am_run 120 26 [none, none, none, none] [] w = some (.inl none, w) := by
  exact am_e2 bf120_26 rfl (am_ge_rf w)
theorem bk120_7 {w : am_Wd} {l0 : Nat} {l1 : Int32} {l2 : Nat} {l3 : Int32} : am_run 120 7 [some (.ref l0), some (.int l1), some (.ref l2), some (.int l3)] [] w = (am_gf w l0 4 0).bind fun v => am_run 120 11 [some (.ref l0), some (.int l1), some (.ref l2), some (.int l3)] (v :: []) w := by
  refine (bu (ls'' := [some (.ref l0), some (.int l1), some (.ref l2), some (.int l3)]) (st' := [.ref l0]) bf120_7 bf120_8 rfl rfl).trans ?_
  exact bh bf120_8 bf120_11 rfl (fun _ _ => am_ge_rf w) rfl
theorem bk120_11 {w : am_Wd} {l0 : Nat} {l1 : Int32} {l2 : Nat} {l3 : Int32} {s0 : Nat} : am_run 120 11 [some (.ref l0), some (.int l1), some (.ref l2), some (.int l3)] [.ref s0] w = (am_kf w l0 4).bind fun _ => (am_x 75 [.ref l0, .int l3, .int l1, .ref l2] w).bind fun r => bct r fun v w' => am_run 120 19 [some (.ref l0), some (.int l1), some (.ref l2), some (.int l3)] (v.toList ++ [.int l3, .ref s0]) w' := by
  refine (bu (ls'' := [some (.ref l0), some (.int l1), some (.ref l2), some (.int l3)]) (st' := [.int l3, .ref s0]) bf120_11 bf120_12 rfl rfl).trans ?_
  refine (bu (ls'' := [some (.ref l0), some (.int l1), some (.ref l2), some (.int l3)]) (st' := [.ref l0, .int l3, .ref s0]) bf120_12 bf120_13 rfl rfl).trans ?_
  refine (bu (ls'' := [some (.ref l0), some (.int l1), some (.ref l2), some (.int l3)]) (st' := [.int l3, .ref l0, .int l3, .ref s0]) bf120_13 bf120_14 rfl rfl).trans ?_
  refine (bu (ls'' := [some (.ref l0), some (.int l1), some (.ref l2), some (.int l3)]) (st' := [.int l1, .int l3, .ref l0, .int l3, .ref s0]) bf120_14 bf120_15 rfl rfl).trans ?_
  refine (bu (ls'' := [some (.ref l0), some (.int l1), some (.ref l2), some (.int l3)]) (st' := [.ref l2, .int l1, .int l3, .ref l0, .int l3, .ref s0]) bf120_15 bf120_16 rfl rfl).trans ?_
  exact bkV bf120_16 bf120_19 rfl (by decide +kernel) (Nat.le_of_ble_eq_true rfl) rfl (bhd rfl)
theorem bk120_19 {w : am_Wd} {l0 : Nat} {l1 : Int32} {l2 : Nat} {l3 : Int32} {s0 : Int64} {s1 : Int32} {s2 : Nat} : am_run 120 19 [some (.ref l0), some (.int l1), some (.ref l2), some (.int l3)] [.long s0, .int s1, .ref s2] w = (am_wl w s2 s1 s0).bind fun w' => am_run 120 20 [some (.ref l0), some (.int l1), some (.ref l2), some (.int l3)] [] w' := by
  exact bh bf120_19 bf120_20 rfl (bge_wl) rfl
theorem bk120_20 {w : am_Wd} {l0 : Nat} {l1 : Int32} {l2 : Nat} {l3 : Int32} : am_run 120 20 [some (.ref l0), some (.int l1), some (.ref l2), some (.int l3)] [] w = am_run 120 2 [some (.ref l0), some (.int l1), some (.ref l2), some (.int (l3 + (nI 1)))] [] w := by
  refine (bu (ls'' := [some (.ref l0), some (.int l1), some (.ref l2), some (.int (l3 + (nI 1)))]) (st' := []) bf120_20 bf120_23 rfl rfl).trans ?_
  refine (bu (ls'' := [some (.ref l0), some (.int l1), some (.ref l2), some (.int (l3 + (nI 1)))]) (st' := []) bf120_23 bf120_2 rfl rfl).trans ?_
  rfl
theorem bf121_0 : am_fetch (am_mth 121) 0 = some (.iconst 0, 1, [], [3, 4]) := by decide +kernel
theorem bf121_1 : am_fetch (am_mth 121) 1 = some (.istore_n 3, 1, [], [3, 4]) := by decide +kernel
theorem bf121_2 : am_fetch (am_mth 121) 2 = some (.iconst 0, 1, [], [4]) := by decide +kernel
theorem bf121_3 : am_fetch (am_mth 121) 3 = some (.istore 4, 2, [], [4]) := by decide +kernel
theorem bf121_5 : am_fetch (am_mth 121) 5 = some (.iload 4, 2, [], []) := by decide +kernel
theorem bf121_7 : am_fetch (am_mth 121) 7 = some (.iconst 4, 1, [], []) := by decide +kernel
theorem bf121_8 : am_fetch (am_mth 121) 8 = some (.if_icmp .ge 23, 3, [], []) := by decide +kernel
theorem bf121_11 : am_fetch (am_mth 121) 11 = some (.iload_n 3, 1, [], []) := by decide +kernel
theorem bf121_12 : am_fetch (am_mth 121) 12 = some (.aload_n 0, 1, [], [3]) := by decide +kernel
theorem bf121_13 : am_fetch (am_mth 121) 13 = some (.iload 4, 2, [], [3]) := by decide +kernel
theorem bf121_15 : am_fetch (am_mth 121) 15 = some (.iload_n 1, 1, [], [3]) := by decide +kernel
theorem bf121_16 : am_fetch (am_mth 121) 16 = some (.aload_n 2, 1, [], [3]) := by decide +kernel
theorem bf121_17 : am_fetch (am_mth 121) 17 = some (.invokevirtual 47, 3, [0, 74, 3, 4, 428, 430, 4, 30], [3]) := by decide +kernel
theorem bf121_20 : am_fetch (am_mth 121) 20 = some (.invokestatic 19, 3, [0, 50, 1, 381, 225, 26], [3]) := by decide +kernel
theorem bf121_23 : am_fetch (am_mth 121) 23 = some (.iadd, 1, [], [3]) := by decide +kernel
theorem bf121_24 : am_fetch (am_mth 121) 24 = some (.istore_n 3, 1, [], [3]) := by decide +kernel
theorem bf121_25 : am_fetch (am_mth 121) 25 = some (.iinc 4 1, 3, [], []) := by decide +kernel
theorem bf121_28 : am_fetch (am_mth 121) 28 = some (.goto (-23), 3, [], []) := by decide +kernel
theorem bf121_31 : am_fetch (am_mth 121) 31 = some (.iload_n 3, 1, [], [0, 1, 2, 4]) := by decide +kernel
theorem bf121_32 : am_fetch (am_mth 121) 32 = some (.ireturn, 1, [0], [0, 1, 2, 3, 4]) := by decide +kernel
theorem bk121_0 {w : am_Wd} {l0 : Nat} {l1 : Int32} {l2 : Nat} : am_run 121 0 [some (.ref l0), some (.int l1), some (.ref l2), none, none] [] w = am_run 121 5 [some (.ref l0), some (.int l1), some (.ref l2), some (.int (nI 0)), some (.int (nI 0))] [] w := by
  refine (bu (ls'' := [some (.ref l0), some (.int l1), some (.ref l2), none, none]) (st' := [.int (nI 0)]) bf121_0 bf121_1 rfl rfl).trans ?_
  refine (bu (ls'' := [some (.ref l0), some (.int l1), some (.ref l2), some (.int (nI 0)), none]) (st' := []) bf121_1 bf121_2 rfl rfl).trans ?_
  refine (bu (ls'' := [some (.ref l0), some (.int l1), some (.ref l2), some (.int (nI 0)), none]) (st' := [.int (nI 0)]) bf121_2 bf121_3 rfl rfl).trans ?_
  refine (bu (ls'' := [some (.ref l0), some (.int l1), some (.ref l2), some (.int (nI 0)), some (.int (nI 0))]) (st' := []) bf121_3 bf121_5 rfl rfl).trans ?_
  rfl
theorem bk121_5 {w : am_Wd} {l0 : Nat} {l1 : Int32} {l2 : Nat} {l3 : Int32} {l4 : Int32} : am_run 121 5 [some (.ref l0), some (.int l1), some (.ref l2), some (.int l3), some (.int l4)] [] w = if (nI 4) ≤ l4 then am_run 121 31 [none, none, none, some (.int l3), none] [] w else am_run 121 11 [some (.ref l0), some (.int l1), some (.ref l2), some (.int l3), some (.int l4)] [] w := by
  refine (bu (ls'' := [some (.ref l0), some (.int l1), some (.ref l2), some (.int l3), some (.int l4)]) (st' := [.int l4]) bf121_5 bf121_7 rfl rfl).trans ?_
  refine (bu (ls'' := [some (.ref l0), some (.int l1), some (.ref l2), some (.int l3), some (.int l4)]) (st' := [.int (nI 4), .int l4]) bf121_7 bf121_8 rfl rfl).trans ?_
  exact bic bf121_8 rfl bf121_31 bf121_11 rfl rfl rfl
theorem bk121_31 {w : am_Wd} {l3 : Int32} : am_run 121 31 [none, none, none, some (.int l3), none] [] w = some (.inl (some (.int l3)), w) := by
  refine (bu (ls'' := [none, none, none, none, none]) (st' := [.int l3]) bf121_31 bf121_32 rfl rfl).trans ?_
  exact am_e2 bf121_32 rfl (am_ge_rf w)
theorem bk121_11 {w : am_Wd} {l0 : Nat} {l1 : Int32} {l2 : Nat} {l3 : Int32} {l4 : Int32} : am_run 121 11 [some (.ref l0), some (.int l1), some (.ref l2), some (.int l3), some (.int l4)] [] w = (am_kf w l0 4).bind fun _ => (am_x 74 [.ref l0, .int l4, .int l1, .ref l2] w).bind fun r => bct r fun v w' => am_run 121 20 [some (.ref l0), some (.int l1), some (.ref l2), none, some (.int l4)] (v.toList ++ [.int l3]) w' := by
  refine (bu (ls'' := [some (.ref l0), some (.int l1), some (.ref l2), none, some (.int l4)]) (st' := [.int l3]) bf121_11 bf121_12 rfl rfl).trans ?_
  refine (bu (ls'' := [some (.ref l0), some (.int l1), some (.ref l2), none, some (.int l4)]) (st' := [.ref l0, .int l3]) bf121_12 bf121_13 rfl rfl).trans ?_
  refine (bu (ls'' := [some (.ref l0), some (.int l1), some (.ref l2), none, some (.int l4)]) (st' := [.int l4, .ref l0, .int l3]) bf121_13 bf121_15 rfl rfl).trans ?_
  refine (bu (ls'' := [some (.ref l0), some (.int l1), some (.ref l2), none, some (.int l4)]) (st' := [.int l1, .int l4, .ref l0, .int l3]) bf121_15 bf121_16 rfl rfl).trans ?_
  refine (bu (ls'' := [some (.ref l0), some (.int l1), some (.ref l2), none, some (.int l4)]) (st' := [.ref l2, .int l1, .int l4, .ref l0, .int l3]) bf121_16 bf121_17 rfl rfl).trans ?_
  exact bkV bf121_17 bf121_20 rfl (by decide +kernel) (Nat.le_of_ble_eq_true rfl) rfl (bhd rfl)
theorem bk121_20 {w : am_Wd} {l0 : Nat} {l1 : Int32} {l2 : Nat} {l4 : Int32} {s0 : Int64} {s1 : Int32} : am_run 121 20 [some (.ref l0), some (.int l1), some (.ref l2), none, some (.int l4)] [.long s0, .int s1] w = (am_x 50 [.long s0] w).bind fun r => bct r fun v w' => am_run 121 23 [some (.ref l0), some (.int l1), some (.ref l2), none, some (.int l4)] (v.toList ++ [.int s1]) w' := by
  exact bkS bf121_20 bf121_23 rfl (by decide +kernel) (Nat.le_of_ble_eq_true rfl) rfl (bhd rfl)
theorem bk121_23 {w : am_Wd} {l0 : Nat} {l1 : Int32} {l2 : Nat} {l4 : Int32} {s0 : Int32} {s1 : Int32} : am_run 121 23 [some (.ref l0), some (.int l1), some (.ref l2), none, some (.int l4)] [.int s0, .int s1] w = am_run 121 5 [some (.ref l0), some (.int l1), some (.ref l2), some (.int (s1 + s0)), some (.int (l4 + (nI 1)))] [] w := by
  refine (bu (ls'' := [some (.ref l0), some (.int l1), some (.ref l2), none, some (.int l4)]) (st' := [.int (s1 + s0)]) bf121_23 bf121_24 rfl rfl).trans ?_
  refine (bu (ls'' := [some (.ref l0), some (.int l1), some (.ref l2), some (.int (s1 + s0)), some (.int l4)]) (st' := []) bf121_24 bf121_25 rfl rfl).trans ?_
  refine (bu (ls'' := [some (.ref l0), some (.int l1), some (.ref l2), some (.int (s1 + s0)), some (.int (l4 + (nI 1)))]) (st' := []) bf121_25 bf121_28 rfl rfl).trans ?_
  refine (bu (ls'' := [some (.ref l0), some (.int l1), some (.ref l2), some (.int (s1 + s0)), some (.int (l4 + (nI 1)))]) (st' := []) bf121_28 bf121_5 rfl rfl).trans ?_
  rfl
theorem bf122_0 : am_fetch (am_mth 122) 0 = some (.iconst 0, 1, [], [3, 4]) := by decide +kernel
theorem bf122_1 : am_fetch (am_mth 122) 1 = some (.istore_n 3, 1, [], [3, 4]) := by decide +kernel
theorem bf122_2 : am_fetch (am_mth 122) 2 = some (.iconst 0, 1, [], [4]) := by decide +kernel
theorem bf122_3 : am_fetch (am_mth 122) 3 = some (.istore 4, 2, [], [4]) := by decide +kernel
theorem bf122_5 : am_fetch (am_mth 122) 5 = some (.iload 4, 2, [], []) := by decide +kernel
theorem bf122_7 : am_fetch (am_mth 122) 7 = some (.iconst 4, 1, [], []) := by decide +kernel
theorem bf122_8 : am_fetch (am_mth 122) 8 = some (.if_icmp .ge 23, 3, [], []) := by decide +kernel
theorem bf122_11 : am_fetch (am_mth 122) 11 = some (.iload_n 3, 1, [], []) := by decide +kernel
theorem bf122_12 : am_fetch (am_mth 122) 12 = some (.aload_n 0, 1, [], [3]) := by decide +kernel
theorem bf122_13 : am_fetch (am_mth 122) 13 = some (.iload 4, 2, [], [3]) := by decide +kernel
theorem bf122_15 : am_fetch (am_mth 122) 15 = some (.iload_n 1, 1, [], [3]) := by decide +kernel
theorem bf122_16 : am_fetch (am_mth 122) 16 = some (.aload_n 2, 1, [], [3]) := by decide +kernel
theorem bf122_17 : am_fetch (am_mth 122) 17 = some (.invokevirtual 51, 3, [0, 75, 3, 4, 448, 450, 5, 30], [3]) := by decide +kernel
theorem bf122_20 : am_fetch (am_mth 122) 20 = some (.invokestatic 19, 3, [0, 50, 1, 381, 225, 26], [3]) := by decide +kernel
theorem bf122_23 : am_fetch (am_mth 122) 23 = some (.iadd, 1, [], [3]) := by decide +kernel
theorem bf122_24 : am_fetch (am_mth 122) 24 = some (.istore_n 3, 1, [], [3]) := by decide +kernel
theorem bf122_25 : am_fetch (am_mth 122) 25 = some (.iinc 4 1, 3, [], []) := by decide +kernel
theorem bf122_28 : am_fetch (am_mth 122) 28 = some (.goto (-23), 3, [], []) := by decide +kernel
theorem bf122_31 : am_fetch (am_mth 122) 31 = some (.iload_n 3, 1, [], [0, 1, 2, 4]) := by decide +kernel
theorem bf122_32 : am_fetch (am_mth 122) 32 = some (.ireturn, 1, [0], [0, 1, 2, 3, 4]) := by decide +kernel
theorem bk122_0 {w : am_Wd} {l0 : Nat} {l1 : Int32} {l2 : Nat} : am_run 122 0 [some (.ref l0), some (.int l1), some (.ref l2), none, none] [] w = am_run 122 5 [some (.ref l0), some (.int l1), some (.ref l2), some (.int (nI 0)), some (.int (nI 0))] [] w := by
  refine (bu (ls'' := [some (.ref l0), some (.int l1), some (.ref l2), none, none]) (st' := [.int (nI 0)]) bf122_0 bf122_1 rfl rfl).trans ?_
  refine (bu (ls'' := [some (.ref l0), some (.int l1), some (.ref l2), some (.int (nI 0)), none]) (st' := []) bf122_1 bf122_2 rfl rfl).trans ?_
  refine (bu (ls'' := [some (.ref l0), some (.int l1), some (.ref l2), some (.int (nI 0)), none]) (st' := [.int (nI 0)]) bf122_2 bf122_3 rfl rfl).trans ?_
  refine (bu (ls'' := [some (.ref l0), some (.int l1), some (.ref l2), some (.int (nI 0)), some (.int (nI 0))]) (st' := []) bf122_3 bf122_5 rfl rfl).trans ?_
  rfl
theorem bk122_5 {w : am_Wd} {l0 : Nat} {l1 : Int32} {l2 : Nat} {l3 : Int32} {l4 : Int32} : am_run 122 5 [some (.ref l0), some (.int l1), some (.ref l2), some (.int l3), some (.int l4)] [] w = if (nI 4) ≤ l4 then am_run 122 31 [none, none, none, some (.int l3), none] [] w else am_run 122 11 [some (.ref l0), some (.int l1), some (.ref l2), some (.int l3), some (.int l4)] [] w := by
  refine (bu (ls'' := [some (.ref l0), some (.int l1), some (.ref l2), some (.int l3), some (.int l4)]) (st' := [.int l4]) bf122_5 bf122_7 rfl rfl).trans ?_
  refine (bu (ls'' := [some (.ref l0), some (.int l1), some (.ref l2), some (.int l3), some (.int l4)]) (st' := [.int (nI 4), .int l4]) bf122_7 bf122_8 rfl rfl).trans ?_
  exact bic bf122_8 rfl bf122_31 bf122_11 rfl rfl rfl
theorem bk122_31 {w : am_Wd} {l3 : Int32} : am_run 122 31 [none, none, none, some (.int l3), none] [] w = some (.inl (some (.int l3)), w) := by
  refine (bu (ls'' := [none, none, none, none, none]) (st' := [.int l3]) bf122_31 bf122_32 rfl rfl).trans ?_
  exact am_e2 bf122_32 rfl (am_ge_rf w)
theorem bk122_11 {w : am_Wd} {l0 : Nat} {l1 : Int32} {l2 : Nat} {l3 : Int32} {l4 : Int32} : am_run 122 11 [some (.ref l0), some (.int l1), some (.ref l2), some (.int l3), some (.int l4)] [] w = (am_kf w l0 4).bind fun _ => (am_x 75 [.ref l0, .int l4, .int l1, .ref l2] w).bind fun r => bct r fun v w' => am_run 122 20 [some (.ref l0), some (.int l1), some (.ref l2), none, some (.int l4)] (v.toList ++ [.int l3]) w' := by
  refine (bu (ls'' := [some (.ref l0), some (.int l1), some (.ref l2), none, some (.int l4)]) (st' := [.int l3]) bf122_11 bf122_12 rfl rfl).trans ?_
  refine (bu (ls'' := [some (.ref l0), some (.int l1), some (.ref l2), none, some (.int l4)]) (st' := [.ref l0, .int l3]) bf122_12 bf122_13 rfl rfl).trans ?_
  refine (bu (ls'' := [some (.ref l0), some (.int l1), some (.ref l2), none, some (.int l4)]) (st' := [.int l4, .ref l0, .int l3]) bf122_13 bf122_15 rfl rfl).trans ?_
  refine (bu (ls'' := [some (.ref l0), some (.int l1), some (.ref l2), none, some (.int l4)]) (st' := [.int l1, .int l4, .ref l0, .int l3]) bf122_15 bf122_16 rfl rfl).trans ?_
  refine (bu (ls'' := [some (.ref l0), some (.int l1), some (.ref l2), none, some (.int l4)]) (st' := [.ref l2, .int l1, .int l4, .ref l0, .int l3]) bf122_16 bf122_17 rfl rfl).trans ?_
  exact bkV bf122_17 bf122_20 rfl (by decide +kernel) (Nat.le_of_ble_eq_true rfl) rfl (bhd rfl)
theorem bk122_20 {w : am_Wd} {l0 : Nat} {l1 : Int32} {l2 : Nat} {l4 : Int32} {s0 : Int64} {s1 : Int32} : am_run 122 20 [some (.ref l0), some (.int l1), some (.ref l2), none, some (.int l4)] [.long s0, .int s1] w = (am_x 50 [.long s0] w).bind fun r => bct r fun v w' => am_run 122 23 [some (.ref l0), some (.int l1), some (.ref l2), none, some (.int l4)] (v.toList ++ [.int s1]) w' := by
  exact bkS bf122_20 bf122_23 rfl (by decide +kernel) (Nat.le_of_ble_eq_true rfl) rfl (bhd rfl)
theorem bk122_23 {w : am_Wd} {l0 : Nat} {l1 : Int32} {l2 : Nat} {l4 : Int32} {s0 : Int32} {s1 : Int32} : am_run 122 23 [some (.ref l0), some (.int l1), some (.ref l2), none, some (.int l4)] [.int s0, .int s1] w = am_run 122 5 [some (.ref l0), some (.int l1), some (.ref l2), some (.int (s1 + s0)), some (.int (l4 + (nI 1)))] [] w := by
  refine (bu (ls'' := [some (.ref l0), some (.int l1), some (.ref l2), none, some (.int l4)]) (st' := [.int (s1 + s0)]) bf122_23 bf122_24 rfl rfl).trans ?_
  refine (bu (ls'' := [some (.ref l0), some (.int l1), some (.ref l2), some (.int (s1 + s0)), some (.int l4)]) (st' := []) bf122_24 bf122_25 rfl rfl).trans ?_
  refine (bu (ls'' := [some (.ref l0), some (.int l1), some (.ref l2), some (.int (s1 + s0)), some (.int (l4 + (nI 1)))]) (st' := []) bf122_25 bf122_28 rfl rfl).trans ?_
  refine (bu (ls'' := [some (.ref l0), some (.int l1), some (.ref l2), some (.int (s1 + s0)), some (.int (l4 + (nI 1)))]) (st' := []) bf122_28 bf122_5 rfl rfl).trans ?_
  rfl
theorem bf123_0 : am_fetch (am_mth 123) 0 = some (.iload_n 1, 1, [], [5]) := by decide +kernel
theorem bf123_1 : am_fetch (am_mth 123) 1 = some (.iload_n 2, 1, [], [1, 5]) := by decide +kernel
theorem bf123_2 : am_fetch (am_mth 123) 2 = some (.invokestatic 29, 3, [0, 76, 2, 183, 184, 18], [1, 2, 5]) := by decide +kernel
theorem bf123_5 : am_fetch (am_mth 123) 5 = some (.istore 5, 2, [], [1, 2, 5]) := by decide +kernel
theorem bf123_7 : am_fetch (am_mth 123) 7 = some (.iload 5, 2, [], [1, 2]) := by decide +kernel
theorem bf123_9 : am_fetch (am_mth 123) 9 = some (.invokestatic 32, 3, [0, 7, 1, 189, 190, 18], [1, 2]) := by decide +kernel
theorem bf123_12 : am_fetch (am_mth 123) 12 = some (.ifCond .eq 29, 3, [], [1, 2]) := by decide +kernel
theorem bf123_15 : am_fetch (am_mth 123) 15 = some (.aload_n 0, 1, [], [1, 2]) := by decide +kernel
theorem bf123_16 : am_fetch (am_mth 123) 16 = some (.getfield 11, 3, [0, 5, 0, 45], [1, 2]) := by decide +kernel
theorem bf123_19 : am_fetch (am_mth 123) 19 = some (.iload 5, 2, [], [1, 2]) := by decide +kernel
theorem bf123_21 : am_fetch (am_mth 123) 21 = some (.iload_n 3, 1, [], [1, 2]) := by decide +kernel
theorem bf123_22 : am_fetch (am_mth 123) 22 = some (.iastore, 1, [], [1, 2]) := by decide +kernel
theorem bf123_23 : am_fetch (am_mth 123) 23 = some (.aload_n 0, 1, [], [1, 2]) := by decide +kernel
theorem bf123_24 : am_fetch (am_mth 123) 24 = some (.getfield 15, 3, [0, 5, 1, 46], [0, 1, 2]) := by decide +kernel
theorem bf123_27 : am_fetch (am_mth 123) 27 = some (.iload 5, 2, [], [0, 1, 2]) := by decide +kernel
theorem bf123_29 : am_fetch (am_mth 123) 29 = some (.iload_n 3, 1, [], [0, 1, 2, 5]) := by decide +kernel
theorem bf123_30 : am_fetch (am_mth 123) 30 = some (.iconst 2, 1, [], [0, 1, 2, 3, 5]) := by decide +kernel
theorem bf123_31 : am_fetch (am_mth 123) 31 = some (.if_icmp .ne 8, 3, [], [0, 1, 2, 3, 5]) := by decide +kernel
theorem bf123_34 : am_fetch (am_mth 123) 34 = some (.iload 4, 2, [], [0, 1, 2, 3, 5]) := by decide +kernel
theorem bf123_36 : am_fetch (am_mth 123) 36 = some (.goto 4, 3, [], [0, 1, 2, 3, 4, 5]) := by decide +kernel
theorem bf123_39 : am_fetch (am_mth 123) 39 = some (.iconst 0, 1, [], [0, 1, 2, 3, 4, 5]) := by decide +kernel
theorem bf123_40 : am_fetch (am_mth 123) 40 = some (.iastore, 1, [], [0, 1, 2, 3, 4, 5]) := by decide +kernel
theorem bf123_41 : am_fetch (am_mth 123) 41 = some (.return_, 1, [], [0, 1, 2, 3, 4, 5]) := by decide +kernel
theorem bk123_0 {w : am_Wd} {l0 : Nat} {l1 : Int32} {l2 : Int32} {l3 : Int32} {l4 : Int32} : am_run 123 0 [some (.ref l0), some (.int l1), some (.int l2), some (.int l3), some (.int l4), none] [] w = (am_x 76 [.int l1, .int l2] w).bind fun r => bct r fun v w' => am_run 123 5 [some (.ref l0), none, none, some (.int l3), some (.int l4), none] (v.toList ++ []) w' := by
  refine (bu (ls'' := [some (.ref l0), none, some (.int l2), some (.int l3), some (.int l4), none]) (st' := [.int l1]) bf123_0 bf123_1 rfl rfl).trans ?_
  refine (bu (ls'' := [some (.ref l0), none, none, some (.int l3), some (.int l4), none]) (st' := [.int l2, .int l1]) bf123_1 bf123_2 rfl rfl).trans ?_
  exact bkS bf123_2 bf123_5 rfl (by decide +kernel) (Nat.le_of_ble_eq_true rfl) rfl (bhd rfl)
theorem bk123_5 {w : am_Wd} {l0 : Nat} {l3 : Int32} {l4 : Int32} {s0 : Int32} : am_run 123 5 [some (.ref l0), none, none, some (.int l3), some (.int l4), none] [.int s0] w = (am_x 7 [.int s0] w).bind fun r => bct r fun v w' => am_run 123 12 [some (.ref l0), none, none, some (.int l3), some (.int l4), some (.int s0)] (v.toList ++ []) w' := by
  refine (bu (ls'' := [some (.ref l0), none, none, some (.int l3), some (.int l4), some (.int s0)]) (st' := []) bf123_5 bf123_7 rfl rfl).trans ?_
  refine (bu (ls'' := [some (.ref l0), none, none, some (.int l3), some (.int l4), some (.int s0)]) (st' := [.int s0]) bf123_7 bf123_9 rfl rfl).trans ?_
  exact bkS bf123_9 bf123_12 rfl (by decide +kernel) (Nat.le_of_ble_eq_true rfl) rfl (bhd rfl)
theorem bk123_12 {w : am_Wd} {l0 : Nat} {l3 : Int32} {l4 : Int32} {l5 : Int32} {s0 : Int32} : am_run 123 12 [some (.ref l0), none, none, some (.int l3), some (.int l4), some (.int l5)] [.int s0] w = if s0 = nI 0 then am_run 123 41 [none, none, none, none, none, none] [] w else am_run 123 15 [some (.ref l0), none, none, some (.int l3), some (.int l4), some (.int l5)] [] w := by
  exact bifc bf123_12 rfl bf123_41 bf123_15 rfl rfl rfl
theorem bk123_41 {w : am_Wd}  : am_run 123 41 [none, none, none, none, none, none] [] w = some (.inl none, w) := by
  exact am_e2 bf123_41 rfl (am_ge_rf w)
theorem bk123_15 {w : am_Wd} {l0 : Nat} {l3 : Int32} {l4 : Int32} {l5 : Int32} : am_run 123 15 [some (.ref l0), none, none, some (.int l3), some (.int l4), some (.int l5)] [] w = (am_gf w l0 5 0).bind fun v => am_run 123 19 [some (.ref l0), none, none, some (.int l3), some (.int l4), some (.int l5)] (v :: []) w := by
  refine (bu (ls'' := [some (.ref l0), none, none, some (.int l3), some (.int l4), some (.int l5)]) (st' := [.ref l0]) bf123_15 bf123_16 rfl rfl).trans ?_
  exact bh bf123_16 bf123_19 rfl (fun _ _ => am_ge_rf w) rfl
theorem bk123_19 {w : am_Wd} {l0 : Nat} {l3 : Int32} {l4 : Int32} {l5 : Int32} {s0 : Nat} : am_run 123 19 [some (.ref l0), none, none, some (.int l3), some (.int l4), some (.int l5)] [.ref s0] w = (am_wi 0 w s0 l5 l3).bind fun w' => am_run 123 23 [some (.ref l0), none, none, some (.int l3), some (.int l4), some (.int l5)] [] w' := by
  refine (bu (ls'' := [some (.ref l0), none, none, some (.int l3), some (.int l4), some (.int l5)]) (st' := [.int l5, .ref s0]) bf123_19 bf123_21 rfl rfl).trans ?_
  refine (bu (ls'' := [some (.ref l0), none, none, some (.int l3), some (.int l4), some (.int l5)]) (st' := [.int l3, .int l5, .ref s0]) bf123_21 bf123_22 rfl rfl).trans ?_
  exact bh bf123_22 bf123_23 rfl (bge_wi) rfl
theorem bk123_23 {w : am_Wd} {l0 : Nat} {l3 : Int32} {l4 : Int32} {l5 : Int32} : am_run 123 23 [some (.ref l0), none, none, some (.int l3), some (.int l4), some (.int l5)] [] w = (am_gf w l0 5 1).bind fun v => am_run 123 27 [none, none, none, some (.int l3), some (.int l4), some (.int l5)] (v :: []) w := by
  refine (bu (ls'' := [none, none, none, some (.int l3), some (.int l4), some (.int l5)]) (st' := [.ref l0]) bf123_23 bf123_24 rfl rfl).trans ?_
  exact bh bf123_24 bf123_27 rfl (fun _ _ => am_ge_rf w) rfl
theorem bk123_27 {w : am_Wd} {l3 : Int32} {l4 : Int32} {l5 : Int32} {s0 : Nat} : am_run 123 27 [none, none, none, some (.int l3), some (.int l4), some (.int l5)] [.ref s0] w = if ¬ l3 = (nI 2) then am_run 123 39 [none, none, none, none, none, none] [.int l5, .ref s0] w else am_run 123 34 [none, none, none, none, some (.int l4), none] [.int l5, .ref s0] w := by
  refine (bu (ls'' := [none, none, none, some (.int l3), some (.int l4), none]) (st' := [.int l5, .ref s0]) bf123_27 bf123_29 rfl rfl).trans ?_
  refine (bu (ls'' := [none, none, none, none, some (.int l4), none]) (st' := [.int l3, .int l5, .ref s0]) bf123_29 bf123_30 rfl rfl).trans ?_
  refine (bu (ls'' := [none, none, none, none, some (.int l4), none]) (st' := [.int (nI 2), .int l3, .int l5, .ref s0]) bf123_30 bf123_31 rfl rfl).trans ?_
  exact bic bf123_31 rfl bf123_39 bf123_34 rfl rfl rfl
theorem bk123_39 {w : am_Wd} {s0 : Int32} {s1 : Nat} : am_run 123 39 [none, none, none, none, none, none] [.int s0, .ref s1] w = am_run 123 40 [none, none, none, none, none, none] [.int (nI 0), .int s0, .ref s1] w := by
  refine (bu (ls'' := [none, none, none, none, none, none]) (st' := [.int (nI 0), .int s0, .ref s1]) bf123_39 bf123_40 rfl rfl).trans ?_
  rfl
theorem bk123_34 {w : am_Wd} {l4 : Int32} {s0 : Int32} {s1 : Nat} : am_run 123 34 [none, none, none, none, some (.int l4), none] [.int s0, .ref s1] w = am_run 123 40 [none, none, none, none, none, none] [.int l4, .int s0, .ref s1] w := by
  refine (bu (ls'' := [none, none, none, none, none, none]) (st' := [.int l4, .int s0, .ref s1]) bf123_34 bf123_36 rfl rfl).trans ?_
  refine (bu (ls'' := [none, none, none, none, none, none]) (st' := [.int l4, .int s0, .ref s1]) bf123_36 bf123_40 rfl rfl).trans ?_
  rfl
theorem bk123_40 {w : am_Wd} {s0 : Int32} {s1 : Int32} {s2 : Nat} : am_run 123 40 [none, none, none, none, none, none] [.int s0, .int s1, .ref s2] w = (am_wi 0 w s2 s1 s0).bind fun w' => am_run 123 41 [none, none, none, none, none, none] [] w' := by
  exact bh bf123_40 bf123_41 rfl (bge_wi) rfl
theorem bf124_0 : am_fetch (am_mth 124) 0 = some (.iload_n 1, 1, [], [3]) := by decide +kernel
theorem bf124_1 : am_fetch (am_mth 124) 1 = some (.iload_n 2, 1, [], [1, 3]) := by decide +kernel
theorem bf124_2 : am_fetch (am_mth 124) 2 = some (.invokestatic 29, 3, [0, 76, 2, 183, 184, 18], [1, 2, 3]) := by decide +kernel
theorem bf124_5 : am_fetch (am_mth 124) 5 = some (.istore_n 3, 1, [], [1, 2, 3]) := by decide +kernel
theorem bf124_6 : am_fetch (am_mth 124) 6 = some (.iload_n 3, 1, [], [1, 2]) := by decide +kernel
theorem bf124_7 : am_fetch (am_mth 124) 7 = some (.invokestatic 32, 3, [0, 7, 1, 189, 190, 18], [1, 2]) := by decide +kernel
theorem bf124_10 : am_fetch (am_mth 124) 10 = some (.ifCond .eq 12, 3, [], [1, 2]) := by decide +kernel
theorem bf124_13 : am_fetch (am_mth 124) 13 = some (.aload_n 0, 1, [], [1, 2]) := by decide +kernel
theorem bf124_14 : am_fetch (am_mth 124) 14 = some (.getfield 11, 3, [0, 5, 0, 45], [0, 1, 2]) := by decide +kernel
theorem bf124_17 : am_fetch (am_mth 124) 17 = some (.iload_n 3, 1, [], [0, 1, 2]) := by decide +kernel
theorem bf124_18 : am_fetch (am_mth 124) 18 = some (.iaload, 1, [], [0, 1, 2, 3]) := by decide +kernel
theorem bf124_19 : am_fetch (am_mth 124) 19 = some (.goto 4, 3, [], [0, 1, 2, 3]) := by decide +kernel
theorem bf124_22 : am_fetch (am_mth 124) 22 = some (.iconst 1, 1, [], [0, 1, 2, 3]) := by decide +kernel
theorem bf124_23 : am_fetch (am_mth 124) 23 = some (.ireturn, 1, [0], [0, 1, 2, 3]) := by decide +kernel
theorem bk124_0 {w : am_Wd} {l0 : Nat} {l1 : Int32} {l2 : Int32} : am_run 124 0 [some (.ref l0), some (.int l1), some (.int l2), none] [] w = (am_x 76 [.int l1, .int l2] w).bind fun r => bct r fun v w' => am_run 124 5 [some (.ref l0), none, none, none] (v.toList ++ []) w' := by
  refine (bu (ls'' := [some (.ref l0), none, some (.int l2), none]) (st' := [.int l1]) bf124_0 bf124_1 rfl rfl).trans ?_
  refine (bu (ls'' := [some (.ref l0), none, none, none]) (st' := [.int l2, .int l1]) bf124_1 bf124_2 rfl rfl).trans ?_
  exact bkS bf124_2 bf124_5 rfl (by decide +kernel) (Nat.le_of_ble_eq_true rfl) rfl (bhd rfl)
theorem bk124_5 {w : am_Wd} {l0 : Nat} {s0 : Int32} : am_run 124 5 [some (.ref l0), none, none, none] [.int s0] w = (am_x 7 [.int s0] w).bind fun r => bct r fun v w' => am_run 124 10 [some (.ref l0), none, none, some (.int s0)] (v.toList ++ []) w' := by
  refine (bu (ls'' := [some (.ref l0), none, none, some (.int s0)]) (st' := []) bf124_5 bf124_6 rfl rfl).trans ?_
  refine (bu (ls'' := [some (.ref l0), none, none, some (.int s0)]) (st' := [.int s0]) bf124_6 bf124_7 rfl rfl).trans ?_
  exact bkS bf124_7 bf124_10 rfl (by decide +kernel) (Nat.le_of_ble_eq_true rfl) rfl (bhd rfl)
theorem bk124_10 {w : am_Wd} {l0 : Nat} {l3 : Int32} {s0 : Int32} : am_run 124 10 [some (.ref l0), none, none, some (.int l3)] [.int s0] w = if s0 = nI 0 then am_run 124 22 [none, none, none, none] [] w else am_run 124 13 [some (.ref l0), none, none, some (.int l3)] [] w := by
  exact bifc bf124_10 rfl bf124_22 bf124_13 rfl rfl rfl
theorem bk124_22 {w : am_Wd}  : am_run 124 22 [none, none, none, none] [] w = am_run 124 23 [none, none, none, none] [.int (nI 1)] w := by
  refine (bu (ls'' := [none, none, none, none]) (st' := [.int (nI 1)]) bf124_22 bf124_23 rfl rfl).trans ?_
  rfl
theorem bk124_13 {w : am_Wd} {l0 : Nat} {l3 : Int32} : am_run 124 13 [some (.ref l0), none, none, some (.int l3)] [] w = (am_gf w l0 5 0).bind fun v => am_run 124 17 [none, none, none, some (.int l3)] (v :: []) w := by
  refine (bu (ls'' := [none, none, none, some (.int l3)]) (st' := [.ref l0]) bf124_13 bf124_14 rfl rfl).trans ?_
  exact bh bf124_14 bf124_17 rfl (fun _ _ => am_ge_rf w) rfl
theorem bk124_23 {w : am_Wd} {s0 : Int32} : am_run 124 23 [none, none, none, none] [.int s0] w = some (.inl (some (.int s0)), w) := by
  exact am_e2 bf124_23 rfl (am_ge_rf w)
theorem bk124_17 {w : am_Wd} {l3 : Int32} {s0 : Nat} : am_run 124 17 [none, none, none, some (.int l3)] [.ref s0] w = (am_ri 0 w s0 l3).bind fun v => am_run 124 19 [none, none, none, none] (.int v :: []) w := by
  refine (bu (ls'' := [none, none, none, none]) (st' := [.int l3, .ref s0]) bf124_17 bf124_18 rfl rfl).trans ?_
  exact bh bf124_18 bf124_19 rfl (fun _ _ => am_ge_rf w) rfl
theorem bk124_19 {w : am_Wd} {s0 : Int32} : am_run 124 19 [none, none, none, none] [.int s0] w = am_run 124 23 [none, none, none, none] [.int s0] w := by
  refine (bu (ls'' := [none, none, none, none]) (st' := [.int s0]) bf124_19 bf124_23 rfl rfl).trans ?_
  rfl
theorem bf125_0 : am_fetch (am_mth 125) 0 = some (.iload_n 1, 1, [], [3]) := by decide +kernel
theorem bf125_1 : am_fetch (am_mth 125) 1 = some (.iload_n 2, 1, [], [1, 3]) := by decide +kernel
theorem bf125_2 : am_fetch (am_mth 125) 2 = some (.invokestatic 29, 3, [0, 76, 2, 183, 184, 18], [1, 2, 3]) := by decide +kernel
theorem bf125_5 : am_fetch (am_mth 125) 5 = some (.istore_n 3, 1, [], [1, 2, 3]) := by decide +kernel
theorem bf125_6 : am_fetch (am_mth 125) 6 = some (.iload_n 3, 1, [], [1, 2]) := by decide +kernel
theorem bf125_7 : am_fetch (am_mth 125) 7 = some (.invokestatic 32, 3, [0, 7, 1, 189, 190, 18], [1, 2]) := by decide +kernel
theorem bf125_10 : am_fetch (am_mth 125) 10 = some (.ifCond .eq 12, 3, [], [1, 2]) := by decide +kernel
theorem bf125_13 : am_fetch (am_mth 125) 13 = some (.aload_n 0, 1, [], [1, 2]) := by decide +kernel
theorem bf125_14 : am_fetch (am_mth 125) 14 = some (.getfield 15, 3, [0, 5, 1, 46], [0, 1, 2]) := by decide +kernel
theorem bf125_17 : am_fetch (am_mth 125) 17 = some (.iload_n 3, 1, [], [0, 1, 2]) := by decide +kernel
theorem bf125_18 : am_fetch (am_mth 125) 18 = some (.iaload, 1, [], [0, 1, 2, 3]) := by decide +kernel
theorem bf125_19 : am_fetch (am_mth 125) 19 = some (.goto 4, 3, [], [0, 1, 2, 3]) := by decide +kernel
theorem bf125_22 : am_fetch (am_mth 125) 22 = some (.iconst 0, 1, [], [0, 1, 2, 3]) := by decide +kernel
theorem bf125_23 : am_fetch (am_mth 125) 23 = some (.ireturn, 1, [0], [0, 1, 2, 3]) := by decide +kernel
theorem bk125_0 {w : am_Wd} {l0 : Nat} {l1 : Int32} {l2 : Int32} : am_run 125 0 [some (.ref l0), some (.int l1), some (.int l2), none] [] w = (am_x 76 [.int l1, .int l2] w).bind fun r => bct r fun v w' => am_run 125 5 [some (.ref l0), none, none, none] (v.toList ++ []) w' := by
  refine (bu (ls'' := [some (.ref l0), none, some (.int l2), none]) (st' := [.int l1]) bf125_0 bf125_1 rfl rfl).trans ?_
  refine (bu (ls'' := [some (.ref l0), none, none, none]) (st' := [.int l2, .int l1]) bf125_1 bf125_2 rfl rfl).trans ?_
  exact bkS bf125_2 bf125_5 rfl (by decide +kernel) (Nat.le_of_ble_eq_true rfl) rfl (bhd rfl)
theorem bk125_5 {w : am_Wd} {l0 : Nat} {s0 : Int32} : am_run 125 5 [some (.ref l0), none, none, none] [.int s0] w = (am_x 7 [.int s0] w).bind fun r => bct r fun v w' => am_run 125 10 [some (.ref l0), none, none, some (.int s0)] (v.toList ++ []) w' := by
  refine (bu (ls'' := [some (.ref l0), none, none, some (.int s0)]) (st' := []) bf125_5 bf125_6 rfl rfl).trans ?_
  refine (bu (ls'' := [some (.ref l0), none, none, some (.int s0)]) (st' := [.int s0]) bf125_6 bf125_7 rfl rfl).trans ?_
  exact bkS bf125_7 bf125_10 rfl (by decide +kernel) (Nat.le_of_ble_eq_true rfl) rfl (bhd rfl)
theorem bk125_10 {w : am_Wd} {l0 : Nat} {l3 : Int32} {s0 : Int32} : am_run 125 10 [some (.ref l0), none, none, some (.int l3)] [.int s0] w = if s0 = nI 0 then am_run 125 22 [none, none, none, none] [] w else am_run 125 13 [some (.ref l0), none, none, some (.int l3)] [] w := by
  exact bifc bf125_10 rfl bf125_22 bf125_13 rfl rfl rfl
theorem bk125_22 {w : am_Wd}  : am_run 125 22 [none, none, none, none] [] w = am_run 125 23 [none, none, none, none] [.int (nI 0)] w := by
  refine (bu (ls'' := [none, none, none, none]) (st' := [.int (nI 0)]) bf125_22 bf125_23 rfl rfl).trans ?_
  rfl
theorem bk125_13 {w : am_Wd} {l0 : Nat} {l3 : Int32} : am_run 125 13 [some (.ref l0), none, none, some (.int l3)] [] w = (am_gf w l0 5 1).bind fun v => am_run 125 17 [none, none, none, some (.int l3)] (v :: []) w := by
  refine (bu (ls'' := [none, none, none, some (.int l3)]) (st' := [.ref l0]) bf125_13 bf125_14 rfl rfl).trans ?_
  exact bh bf125_14 bf125_17 rfl (fun _ _ => am_ge_rf w) rfl
theorem bk125_23 {w : am_Wd} {s0 : Int32} : am_run 125 23 [none, none, none, none] [.int s0] w = some (.inl (some (.int s0)), w) := by
  exact am_e2 bf125_23 rfl (am_ge_rf w)
theorem bk125_17 {w : am_Wd} {l3 : Int32} {s0 : Nat} : am_run 125 17 [none, none, none, some (.int l3)] [.ref s0] w = (am_ri 0 w s0 l3).bind fun v => am_run 125 19 [none, none, none, none] (.int v :: []) w := by
  refine (bu (ls'' := [none, none, none, none]) (st' := [.int l3, .ref s0]) bf125_17 bf125_18 rfl rfl).trans ?_
  exact bh bf125_18 bf125_19 rfl (fun _ _ => am_ge_rf w) rfl
theorem bk125_19 {w : am_Wd} {s0 : Int32} : am_run 125 19 [none, none, none, none] [.int s0] w = am_run 125 23 [none, none, none, none] [.int s0] w := by
  refine (bu (ls'' := [none, none, none, none]) (st' := [.int s0]) bf125_19 bf125_23 rfl rfl).trans ?_
  rfl
theorem bf126_0 : am_fetch (am_mth 126) 0 = some (.iload_n 1, 1, [], [4]) := by decide +kernel
theorem bf126_1 : am_fetch (am_mth 126) 1 = some (.iload_n 2, 1, [], [1, 4]) := by decide +kernel
theorem bf126_2 : am_fetch (am_mth 126) 2 = some (.invokestatic 29, 3, [0, 76, 2, 183, 184, 18], [1, 2, 4]) := by decide +kernel
theorem bf126_5 : am_fetch (am_mth 126) 5 = some (.istore 4, 2, [], [1, 2, 4]) := by decide +kernel
theorem bf126_7 : am_fetch (am_mth 126) 7 = some (.iload 4, 2, [], [1, 2]) := by decide +kernel
theorem bf126_9 : am_fetch (am_mth 126) 9 = some (.invokestatic 32, 3, [0, 7, 1, 189, 190, 18], [1, 2]) := by decide +kernel
theorem bf126_12 : am_fetch (am_mth 126) 12 = some (.ifCond .eq 14, 3, [], [1, 2]) := by decide +kernel
theorem bf126_15 : am_fetch (am_mth 126) 15 = some (.aload_n 0, 1, [], [1, 2]) := by decide +kernel
theorem bf126_16 : am_fetch (am_mth 126) 16 = some (.getfield 11, 3, [0, 5, 0, 45], [1, 2]) := by decide +kernel
theorem bf126_19 : am_fetch (am_mth 126) 19 = some (.iload 4, 2, [], [1, 2]) := by decide +kernel
theorem bf126_21 : am_fetch (am_mth 126) 21 = some (.iaload, 1, [], [1, 2]) := by decide +kernel
theorem bf126_22 : am_fetch (am_mth 126) 22 = some (.iconst 1, 1, [], [1, 2]) := by decide +kernel
theorem bf126_23 : am_fetch (am_mth 126) 23 = some (.if_icmp .ne 5, 3, [], [1, 2]) := by decide +kernel
theorem bf126_26 : am_fetch (am_mth 126) 26 = some (.iconst 1, 1, [], [0, 1, 2, 3, 4]) := by decide +kernel
theorem bf126_27 : am_fetch (am_mth 126) 27 = some (.ireturn, 1, [1], [0, 1, 2, 3, 4]) := by decide +kernel
theorem bf126_28 : am_fetch (am_mth 126) 28 = some (.aload_n 0, 1, [], [1, 2]) := by decide +kernel
theorem bf126_29 : am_fetch (am_mth 126) 29 = some (.getfield 11, 3, [0, 5, 0, 45], [1, 2]) := by decide +kernel
theorem bf126_32 : am_fetch (am_mth 126) 32 = some (.iload 4, 2, [], [1, 2]) := by decide +kernel
theorem bf126_34 : am_fetch (am_mth 126) 34 = some (.iaload, 1, [], [1, 2]) := by decide +kernel
theorem bf126_35 : am_fetch (am_mth 126) 35 = some (.iconst 2, 1, [], [1, 2]) := by decide +kernel
theorem bf126_36 : am_fetch (am_mth 126) 36 = some (.if_icmp .ne 21, 3, [], [1, 2]) := by decide +kernel
theorem bf126_39 : am_fetch (am_mth 126) 39 = some (.aload_n 0, 1, [], [1, 2]) := by decide +kernel
theorem bf126_40 : am_fetch (am_mth 126) 40 = some (.getfield 15, 3, [0, 5, 1, 46], [0, 1, 2]) := by decide +kernel
theorem bf126_43 : am_fetch (am_mth 126) 43 = some (.iload 4, 2, [], [0, 1, 2]) := by decide +kernel
theorem bf126_45 : am_fetch (am_mth 126) 45 = some (.iaload, 1, [], [0, 1, 2, 4]) := by decide +kernel
theorem bf126_46 : am_fetch (am_mth 126) 46 = some (.iload_n 3, 1, [], [0, 1, 2, 4]) := by decide +kernel
theorem bf126_47 : am_fetch (am_mth 126) 47 = some (.invokestatic 53, 3, [0, 9, 2, 367, 368, 18], [0, 1, 2, 3, 4]) := by decide +kernel
theorem bf126_50 : am_fetch (am_mth 126) 50 = some (.ifCond .ne 7, 3, [], [0, 1, 2, 3, 4]) := by decide +kernel
theorem bf126_53 : am_fetch (am_mth 126) 53 = some (.iconst 1, 1, [], [0, 1, 2, 3, 4]) := by decide +kernel
theorem bf126_54 : am_fetch (am_mth 126) 54 = some (.goto 4, 3, [], [0, 1, 2, 3, 4]) := by decide +kernel
theorem bf126_57 : am_fetch (am_mth 126) 57 = some (.iconst 0, 1, [], [0, 1, 2, 3, 4]) := by decide +kernel
theorem bf126_58 : am_fetch (am_mth 126) 58 = some (.ireturn, 1, [1], [0, 1, 2, 3, 4]) := by decide +kernel
theorem bk126_0 {w : am_Wd} {l0 : Nat} {l1 : Int32} {l2 : Int32} {l3 : Int32} : am_run 126 0 [some (.ref l0), some (.int l1), some (.int l2), some (.int l3), none] [] w = (am_x 76 [.int l1, .int l2] w).bind fun r => bct r fun v w' => am_run 126 5 [some (.ref l0), none, none, some (.int l3), none] (v.toList ++ []) w' := by
  refine (bu (ls'' := [some (.ref l0), none, some (.int l2), some (.int l3), none]) (st' := [.int l1]) bf126_0 bf126_1 rfl rfl).trans ?_
  refine (bu (ls'' := [some (.ref l0), none, none, some (.int l3), none]) (st' := [.int l2, .int l1]) bf126_1 bf126_2 rfl rfl).trans ?_
  exact bkS bf126_2 bf126_5 rfl (by decide +kernel) (Nat.le_of_ble_eq_true rfl) rfl (bhd rfl)
theorem bk126_5 {w : am_Wd} {l0 : Nat} {l3 : Int32} {s0 : Int32} : am_run 126 5 [some (.ref l0), none, none, some (.int l3), none] [.int s0] w = (am_x 7 [.int s0] w).bind fun r => bct r fun v w' => am_run 126 12 [some (.ref l0), none, none, some (.int l3), some (.int s0)] (v.toList ++ []) w' := by
  refine (bu (ls'' := [some (.ref l0), none, none, some (.int l3), some (.int s0)]) (st' := []) bf126_5 bf126_7 rfl rfl).trans ?_
  refine (bu (ls'' := [some (.ref l0), none, none, some (.int l3), some (.int s0)]) (st' := [.int s0]) bf126_7 bf126_9 rfl rfl).trans ?_
  exact bkS bf126_9 bf126_12 rfl (by decide +kernel) (Nat.le_of_ble_eq_true rfl) rfl (bhd rfl)
theorem bk126_12 {w : am_Wd} {l0 : Nat} {l3 : Int32} {l4 : Int32} {s0 : Int32} : am_run 126 12 [some (.ref l0), none, none, some (.int l3), some (.int l4)] [.int s0] w = if s0 = nI 0 then am_run 126 26 [none, none, none, none, none] [] w else am_run 126 15 [some (.ref l0), none, none, some (.int l3), some (.int l4)] [] w := by
  exact bifc bf126_12 rfl bf126_26 bf126_15 rfl rfl rfl
theorem bk126_26 {w : am_Wd}  : am_run 126 26 [none, none, none, none, none] [] w = some (.inl (some (.int (nI 1))), w) := by
  refine (bu (ls'' := [none, none, none, none, none]) (st' := [.int (nI 1)]) bf126_26 bf126_27 rfl rfl).trans ?_
  exact am_e2 bf126_27 rfl (am_ge_rf w)
theorem bk126_15 {w : am_Wd} {l0 : Nat} {l3 : Int32} {l4 : Int32} : am_run 126 15 [some (.ref l0), none, none, some (.int l3), some (.int l4)] [] w = (am_gf w l0 5 0).bind fun v => am_run 126 19 [some (.ref l0), none, none, some (.int l3), some (.int l4)] (v :: []) w := by
  refine (bu (ls'' := [some (.ref l0), none, none, some (.int l3), some (.int l4)]) (st' := [.ref l0]) bf126_15 bf126_16 rfl rfl).trans ?_
  exact bh bf126_16 bf126_19 rfl (fun _ _ => am_ge_rf w) rfl
theorem bk126_19 {w : am_Wd} {l0 : Nat} {l3 : Int32} {l4 : Int32} {s0 : Nat} : am_run 126 19 [some (.ref l0), none, none, some (.int l3), some (.int l4)] [.ref s0] w = (am_ri 0 w s0 l4).bind fun v => am_run 126 22 [some (.ref l0), none, none, some (.int l3), some (.int l4)] (.int v :: []) w := by
  refine (bu (ls'' := [some (.ref l0), none, none, some (.int l3), some (.int l4)]) (st' := [.int l4, .ref s0]) bf126_19 bf126_21 rfl rfl).trans ?_
  exact bh bf126_21 bf126_22 rfl (fun _ _ => am_ge_rf w) rfl
theorem bk126_22 {w : am_Wd} {l0 : Nat} {l3 : Int32} {l4 : Int32} {s0 : Int32} : am_run 126 22 [some (.ref l0), none, none, some (.int l3), some (.int l4)] [.int s0] w = if ¬ s0 = (nI 1) then am_run 126 28 [some (.ref l0), none, none, some (.int l3), some (.int l4)] [] w else am_run 126 26 [none, none, none, none, none] [] w := by
  refine (bu (ls'' := [some (.ref l0), none, none, some (.int l3), some (.int l4)]) (st' := [.int (nI 1), .int s0]) bf126_22 bf126_23 rfl rfl).trans ?_
  exact bic bf126_23 rfl bf126_28 bf126_26 rfl rfl rfl
theorem bk126_28 {w : am_Wd} {l0 : Nat} {l3 : Int32} {l4 : Int32} : am_run 126 28 [some (.ref l0), none, none, some (.int l3), some (.int l4)] [] w = (am_gf w l0 5 0).bind fun v => am_run 126 32 [some (.ref l0), none, none, some (.int l3), some (.int l4)] (v :: []) w := by
  refine (bu (ls'' := [some (.ref l0), none, none, some (.int l3), some (.int l4)]) (st' := [.ref l0]) bf126_28 bf126_29 rfl rfl).trans ?_
  exact bh bf126_29 bf126_32 rfl (fun _ _ => am_ge_rf w) rfl
theorem bk126_32 {w : am_Wd} {l0 : Nat} {l3 : Int32} {l4 : Int32} {s0 : Nat} : am_run 126 32 [some (.ref l0), none, none, some (.int l3), some (.int l4)] [.ref s0] w = (am_ri 0 w s0 l4).bind fun v => am_run 126 35 [some (.ref l0), none, none, some (.int l3), some (.int l4)] (.int v :: []) w := by
  refine (bu (ls'' := [some (.ref l0), none, none, some (.int l3), some (.int l4)]) (st' := [.int l4, .ref s0]) bf126_32 bf126_34 rfl rfl).trans ?_
  exact bh bf126_34 bf126_35 rfl (fun _ _ => am_ge_rf w) rfl
theorem bk126_35 {w : am_Wd} {l0 : Nat} {l3 : Int32} {l4 : Int32} {s0 : Int32} : am_run 126 35 [some (.ref l0), none, none, some (.int l3), some (.int l4)] [.int s0] w = if ¬ s0 = (nI 2) then am_run 126 57 [none, none, none, none, none] [] w else am_run 126 39 [some (.ref l0), none, none, some (.int l3), some (.int l4)] [] w := by
  refine (bu (ls'' := [some (.ref l0), none, none, some (.int l3), some (.int l4)]) (st' := [.int (nI 2), .int s0]) bf126_35 bf126_36 rfl rfl).trans ?_
  exact bic bf126_36 rfl bf126_57 bf126_39 rfl rfl rfl
theorem bk126_57 {w : am_Wd}  : am_run 126 57 [none, none, none, none, none] [] w = am_run 126 58 [none, none, none, none, none] [.int (nI 0)] w := by
  refine (bu (ls'' := [none, none, none, none, none]) (st' := [.int (nI 0)]) bf126_57 bf126_58 rfl rfl).trans ?_
  rfl
theorem bk126_39 {w : am_Wd} {l0 : Nat} {l3 : Int32} {l4 : Int32} : am_run 126 39 [some (.ref l0), none, none, some (.int l3), some (.int l4)] [] w = (am_gf w l0 5 1).bind fun v => am_run 126 43 [none, none, none, some (.int l3), some (.int l4)] (v :: []) w := by
  refine (bu (ls'' := [none, none, none, some (.int l3), some (.int l4)]) (st' := [.ref l0]) bf126_39 bf126_40 rfl rfl).trans ?_
  exact bh bf126_40 bf126_43 rfl (fun _ _ => am_ge_rf w) rfl
theorem bk126_58 {w : am_Wd} {s0 : Int32} (hb : am_ok (am_rt 1) (.int s0) = true) : am_run 126 58 [none, none, none, none, none] [.int s0] w = some (.inl (some (.int s0)), w) := by
  exact am_e2 bf126_58 (by unfold am_stp; exact if_pos ⟨by decide, hb⟩) (am_ge_rf w)
theorem bk126_43 {w : am_Wd} {l3 : Int32} {l4 : Int32} {s0 : Nat} : am_run 126 43 [none, none, none, some (.int l3), some (.int l4)] [.ref s0] w = (am_ri 0 w s0 l4).bind fun v => am_run 126 46 [none, none, none, some (.int l3), none] (.int v :: []) w := by
  refine (bu (ls'' := [none, none, none, some (.int l3), none]) (st' := [.int l4, .ref s0]) bf126_43 bf126_45 rfl rfl).trans ?_
  exact bh bf126_45 bf126_46 rfl (fun _ _ => am_ge_rf w) rfl
theorem bk126_46 {w : am_Wd} {l3 : Int32} {s0 : Int32} : am_run 126 46 [none, none, none, some (.int l3), none] [.int s0] w = (am_x 9 [.int s0, .int l3] w).bind fun r => bct r fun v w' => am_run 126 50 [none, none, none, none, none] (v.toList ++ []) w' := by
  refine (bu (ls'' := [none, none, none, none, none]) (st' := [.int l3, .int s0]) bf126_46 bf126_47 rfl rfl).trans ?_
  exact bkS bf126_47 bf126_50 rfl (by decide +kernel) (Nat.le_of_ble_eq_true rfl) rfl (bhd rfl)
theorem bk126_50 {w : am_Wd} {s0 : Int32} : am_run 126 50 [none, none, none, none, none] [.int s0] w = if ¬ s0 = nI 0 then am_run 126 57 [none, none, none, none, none] [] w else am_run 126 53 [none, none, none, none, none] [] w := by
  exact bifc bf126_50 rfl bf126_57 bf126_53 rfl rfl rfl
theorem bk126_53 {w : am_Wd}  : am_run 126 53 [none, none, none, none, none] [] w = am_run 126 58 [none, none, none, none, none] [.int (nI 1)] w := by
  refine (bu (ls'' := [none, none, none, none, none]) (st' := [.int (nI 1)]) bf126_53 bf126_54 rfl rfl).trans ?_
  refine (bu (ls'' := [none, none, none, none, none]) (st' := [.int (nI 1)]) bf126_54 bf126_58 rfl rfl).trans ?_
  rfl
theorem bf127_0 : am_fetch (am_mth 127) 0 = some (.aload_n 0, 1, [], []) := by decide +kernel
theorem bf127_1 : am_fetch (am_mth 127) 1 = some (.invokespecial 3, 3, [1, 254, 37, 38], []) := by decide +kernel
theorem bf127_4 : am_fetch (am_mth 127) 4 = some (.aload_n 0, 1, [], []) := by decide +kernel
theorem bf127_5 : am_fetch (am_mth 127) 5 = some (.new 9, 3, [0, 7, 2, 255, 256, 29], []) := by decide +kernel
theorem bf127_8 : am_fetch (am_mth 127) 8 = some (.dup, 1, [], []) := by decide +kernel
theorem bf127_9 : am_fetch (am_mth 127) 9 = some (.invokespecial 11, 3, [0, 80, 0, 257, 258, 29], []) := by decide +kernel
theorem bf127_12 : am_fetch (am_mth 127) 12 = some (.putfield 12, 3, [0, 6, 1, 302], []) := by decide +kernel
theorem bf127_15 : am_fetch (am_mth 127) 15 = some (.aload_n 0, 1, [], []) := by decide +kernel
theorem bf127_16 : am_fetch (am_mth 127) 16 = some (.new 18, 3, [0, 4, 1, 281, 282, 30], []) := by decide +kernel
theorem bf127_19 : am_fetch (am_mth 127) 19 = some (.dup, 1, [], []) := by decide +kernel
theorem bf127_20 : am_fetch (am_mth 127) 20 = some (.invokespecial 20, 3, [0, 0, 0, 283, 284, 30], []) := by decide +kernel
theorem bf127_23 : am_fetch (am_mth 127) 23 = some (.putfield 21, 3, [0, 6, 2, 304], []) := by decide +kernel
theorem bf127_26 : am_fetch (am_mth 127) 26 = some (.aload_n 0, 1, [], []) := by decide +kernel
theorem bf127_27 : am_fetch (am_mth 127) 27 = some (.iload_n 1, 1, [], []) := by decide +kernel
theorem bf127_28 : am_fetch (am_mth 127) 28 = some (.putfield 25, 3, [0, 6, 0, 301], []) := by decide +kernel
theorem bf127_31 : am_fetch (am_mth 127) 31 = some (.aload_n 0, 1, [], []) := by decide +kernel
theorem bf127_32 : am_fetch (am_mth 127) 32 = some (.iload_n 1, 1, [], []) := by decide +kernel
theorem bf127_33 : am_fetch (am_mth 127) 33 = some (.iconst 4, 1, [], [1]) := by decide +kernel
theorem bf127_34 : am_fetch (am_mth 127) 34 = some (.imul, 1, [], [1]) := by decide +kernel
theorem bf127_35 : am_fetch (am_mth 127) 35 = some (.iload_n 2, 1, [], [1]) := by decide +kernel
theorem bf127_36 : am_fetch (am_mth 127) 36 = some (.iadd, 1, [], [1, 2]) := by decide +kernel
theorem bf127_37 : am_fetch (am_mth 127) 37 = some (.putfield 29, 3, [0, 6, 3, 306], [1, 2]) := by decide +kernel
theorem bf127_40 : am_fetch (am_mth 127) 40 = some (.aload_n 0, 1, [], [1, 2]) := by decide +kernel
theorem bf127_41 : am_fetch (am_mth 127) 41 = some (.iload_n 3, 1, [], [1, 2]) := by decide +kernel
theorem bf127_42 : am_fetch (am_mth 127) 42 = some (.putfield 32, 3, [0, 6, 4, 307], [1, 2, 3]) := by decide +kernel
theorem bf127_45 : am_fetch (am_mth 127) 45 = some (.iload 4, 2, [], [1, 2, 3]) := by decide +kernel
theorem bf127_47 : am_fetch (am_mth 127) 47 = some (.ifCond .eq 17, 3, [], [1, 2, 3, 4]) := by decide +kernel
theorem bf127_50 : am_fetch (am_mth 127) 50 = some (.aload_n 0, 1, [], [1, 2, 3, 4]) := by decide +kernel
theorem bf127_51 : am_fetch (am_mth 127) 51 = some (.getfield 21, 3, [0, 6, 2, 304], [1, 2, 3, 4]) := by decide +kernel
theorem bf127_54 : am_fetch (am_mth 127) 54 = some (.aload_n 0, 1, [], [1, 2, 3, 4]) := by decide +kernel
theorem bf127_55 : am_fetch (am_mth 127) 55 = some (.getfield 29, 3, [0, 6, 3, 306], [0, 1, 2, 3, 4]) := by decide +kernel
theorem bf127_58 : am_fetch (am_mth 127) 58 = some (.invokevirtual 35, 3, [0, 2, 1, 4, 292, 293, 294, 30], [0, 1, 2, 3, 4]) := by decide +kernel
theorem bf127_61 : am_fetch (am_mth 127) 61 = some (.goto 10, 3, [], [0, 1, 2, 3, 4]) := by decide +kernel
theorem bf127_64 : am_fetch (am_mth 127) 64 = some (.aload_n 0, 1, [], [1, 2, 3, 4]) := by decide +kernel
theorem bf127_65 : am_fetch (am_mth 127) 65 = some (.getfield 21, 3, [0, 6, 2, 304], [0, 1, 2, 3, 4]) := by decide +kernel
theorem bf127_68 : am_fetch (am_mth 127) 68 = some (.invokevirtual 39, 3, [0, 1, 0, 4, 296, 297, 298, 30], [0, 1, 2, 3, 4]) := by decide +kernel
theorem bf127_71 : am_fetch (am_mth 127) 71 = some (.return_, 1, [], [0, 1, 2, 3, 4]) := by decide +kernel
theorem bk127_0 {w : am_Wd} {l0 : Nat} {l1 : Int32} {l2 : Int32} {l3 : Int32} {l4 : Int32} : am_run 127 0 [some (.ref l0), some (.int l1), some (.int l2), some (.int l3), some (.int l4)] [] w = am_run 127 8 [some (.ref l0), some (.int l1), some (.int l2), some (.int l3), some (.int l4)] (.ref w.2.1 :: [.ref l0]) (am_nw w (.inr (7, am_df 7 2)) 2) := by
  refine (bu (ls'' := [some (.ref l0), some (.int l1), some (.int l2), some (.int l3), some (.int l4)]) (st' := [.ref l0]) bf127_0 bf127_1 rfl rfl).trans ?_
  refine (bu (ls'' := [some (.ref l0), some (.int l1), some (.int l2), some (.int l3), some (.int l4)]) (st' := []) bf127_1 bf127_4 rfl rfl).trans ?_
  refine (bu (ls'' := [some (.ref l0), some (.int l1), some (.int l2), some (.int l3), some (.int l4)]) (st' := [.ref l0]) bf127_4 bf127_5 rfl rfl).trans ?_
  exact bn bf127_5 bf127_8 rfl rfl (am_ge_nw _ _ _)
theorem bk127_8 {w : am_Wd} {l0 : Nat} {l1 : Int32} {l2 : Int32} {l3 : Int32} {l4 : Int32} {s0 : Nat} {s1 : Nat} : am_run 127 8 [some (.ref l0), some (.int l1), some (.int l2), some (.int l3), some (.int l4)] [.ref s0, .ref s1] w = (am_x 80 [.ref s0] w).bind fun r => bct r fun v w' => am_run 127 12 [some (.ref l0), some (.int l1), some (.int l2), some (.int l3), some (.int l4)] (v.toList ++ [.ref s0, .ref s1]) w' := by
  refine (bu (ls'' := [some (.ref l0), some (.int l1), some (.int l2), some (.int l3), some (.int l4)]) (st' := [.ref s0, .ref s0, .ref s1]) bf127_8 bf127_9 rfl rfl).trans ?_
  exact bkS bf127_9 bf127_12 rfl (by decide +kernel) (Nat.le_of_ble_eq_true rfl) rfl (bhd rfl)
theorem bk127_12 {w : am_Wd} {l0 : Nat} {l1 : Int32} {l2 : Int32} {l3 : Int32} {l4 : Int32} {s0 : Nat} {s1 : Nat} : am_run 127 12 [some (.ref l0), some (.int l1), some (.int l2), some (.int l3), some (.int l4)] [.ref s0, .ref s1] w = (am_pf w s1 6 1 (.ref s0)).bind fun w' => am_run 127 15 [some (.ref l0), some (.int l1), some (.int l2), some (.int l3), some (.int l4)] [] w' := by
  exact bh bf127_12 bf127_15 rfl (bge_pf) rfl
theorem bk127_15 {w : am_Wd} {l0 : Nat} {l1 : Int32} {l2 : Int32} {l3 : Int32} {l4 : Int32} : am_run 127 15 [some (.ref l0), some (.int l1), some (.int l2), some (.int l3), some (.int l4)] [] w = am_run 127 19 [some (.ref l0), some (.int l1), some (.int l2), some (.int l3), some (.int l4)] (.ref w.2.1 :: [.ref l0]) (am_nw w (.inr (4, am_df 4 1)) 1) := by
  refine (bu (ls'' := [some (.ref l0), some (.int l1), some (.int l2), some (.int l3), some (.int l4)]) (st' := [.ref l0]) bf127_15 bf127_16 rfl rfl).trans ?_
  exact bn bf127_16 bf127_19 rfl rfl (am_ge_nw _ _ _)
theorem bk127_19 {w : am_Wd} {l0 : Nat} {l1 : Int32} {l2 : Int32} {l3 : Int32} {l4 : Int32} {s0 : Nat} {s1 : Nat} : am_run 127 19 [some (.ref l0), some (.int l1), some (.int l2), some (.int l3), some (.int l4)] [.ref s0, .ref s1] w = (am_x 0 [.ref s0] w).bind fun r => bct r fun v w' => am_run 127 23 [some (.ref l0), some (.int l1), some (.int l2), some (.int l3), some (.int l4)] (v.toList ++ [.ref s0, .ref s1]) w' := by
  refine (bu (ls'' := [some (.ref l0), some (.int l1), some (.int l2), some (.int l3), some (.int l4)]) (st' := [.ref s0, .ref s0, .ref s1]) bf127_19 bf127_20 rfl rfl).trans ?_
  exact bkS bf127_20 bf127_23 rfl (by decide +kernel) (Nat.le_of_ble_eq_true rfl) rfl (bhd rfl)
theorem bk127_23 {w : am_Wd} {l0 : Nat} {l1 : Int32} {l2 : Int32} {l3 : Int32} {l4 : Int32} {s0 : Nat} {s1 : Nat} : am_run 127 23 [some (.ref l0), some (.int l1), some (.int l2), some (.int l3), some (.int l4)] [.ref s0, .ref s1] w = (am_pf w s1 6 2 (.ref s0)).bind fun w' => am_run 127 26 [some (.ref l0), some (.int l1), some (.int l2), some (.int l3), some (.int l4)] [] w' := by
  exact bh bf127_23 bf127_26 rfl (bge_pf) rfl
theorem bk127_26 {w : am_Wd} {l0 : Nat} {l1 : Int32} {l2 : Int32} {l3 : Int32} {l4 : Int32} : am_run 127 26 [some (.ref l0), some (.int l1), some (.int l2), some (.int l3), some (.int l4)] [] w = (am_pf w l0 6 0 (.int l1)).bind fun w' => am_run 127 31 [some (.ref l0), some (.int l1), some (.int l2), some (.int l3), some (.int l4)] [] w' := by
  refine (bu (ls'' := [some (.ref l0), some (.int l1), some (.int l2), some (.int l3), some (.int l4)]) (st' := [.ref l0]) bf127_26 bf127_27 rfl rfl).trans ?_
  refine (bu (ls'' := [some (.ref l0), some (.int l1), some (.int l2), some (.int l3), some (.int l4)]) (st' := [.int l1, .ref l0]) bf127_27 bf127_28 rfl rfl).trans ?_
  exact bh bf127_28 bf127_31 rfl (bge_pf) rfl
theorem bk127_31 {w : am_Wd} {l0 : Nat} {l1 : Int32} {l2 : Int32} {l3 : Int32} {l4 : Int32} : am_run 127 31 [some (.ref l0), some (.int l1), some (.int l2), some (.int l3), some (.int l4)] [] w = (am_pf w l0 6 3 (.int ((l1 * (nI 4)) + l2))).bind fun w' => am_run 127 40 [some (.ref l0), none, none, some (.int l3), some (.int l4)] [] w' := by
  refine (bu (ls'' := [some (.ref l0), some (.int l1), some (.int l2), some (.int l3), some (.int l4)]) (st' := [.ref l0]) bf127_31 bf127_32 rfl rfl).trans ?_
  refine (bu (ls'' := [some (.ref l0), none, some (.int l2), some (.int l3), some (.int l4)]) (st' := [.int l1, .ref l0]) bf127_32 bf127_33 rfl rfl).trans ?_
  refine (bu (ls'' := [some (.ref l0), none, some (.int l2), some (.int l3), some (.int l4)]) (st' := [.int (nI 4), .int l1, .ref l0]) bf127_33 bf127_34 rfl rfl).trans ?_
  refine (bu (ls'' := [some (.ref l0), none, some (.int l2), some (.int l3), some (.int l4)]) (st' := [.int (l1 * (nI 4)), .ref l0]) bf127_34 bf127_35 rfl rfl).trans ?_
  refine (bu (ls'' := [some (.ref l0), none, none, some (.int l3), some (.int l4)]) (st' := [.int l2, .int (l1 * (nI 4)), .ref l0]) bf127_35 bf127_36 rfl rfl).trans ?_
  refine (bu (ls'' := [some (.ref l0), none, none, some (.int l3), some (.int l4)]) (st' := [.int ((l1 * (nI 4)) + l2), .ref l0]) bf127_36 bf127_37 rfl rfl).trans ?_
  exact bh bf127_37 bf127_40 rfl (bge_pf) rfl
theorem bk127_40 {w : am_Wd} {l0 : Nat} {l3 : Int32} {l4 : Int32} : am_run 127 40 [some (.ref l0), none, none, some (.int l3), some (.int l4)] [] w = (am_pf w l0 6 4 (.int l3)).bind fun w' => am_run 127 45 [some (.ref l0), none, none, none, some (.int l4)] [] w' := by
  refine (bu (ls'' := [some (.ref l0), none, none, some (.int l3), some (.int l4)]) (st' := [.ref l0]) bf127_40 bf127_41 rfl rfl).trans ?_
  refine (bu (ls'' := [some (.ref l0), none, none, none, some (.int l4)]) (st' := [.int l3, .ref l0]) bf127_41 bf127_42 rfl rfl).trans ?_
  exact bh bf127_42 bf127_45 rfl (bge_pf) rfl
theorem bk127_45 {w : am_Wd} {l0 : Nat} {l4 : Int32} : am_run 127 45 [some (.ref l0), none, none, none, some (.int l4)] [] w = if l4 = nI 0 then am_run 127 64 [some (.ref l0), none, none, none, none] [] w else am_run 127 50 [some (.ref l0), none, none, none, none] [] w := by
  refine (bu (ls'' := [some (.ref l0), none, none, none, none]) (st' := [.int l4]) bf127_45 bf127_47 rfl rfl).trans ?_
  exact bifc bf127_47 rfl bf127_64 bf127_50 rfl rfl rfl
theorem bk127_64 {w : am_Wd} {l0 : Nat} : am_run 127 64 [some (.ref l0), none, none, none, none] [] w = (am_gf w l0 6 2).bind fun v => am_run 127 68 [none, none, none, none, none] (v :: []) w := by
  refine (bu (ls'' := [none, none, none, none, none]) (st' := [.ref l0]) bf127_64 bf127_65 rfl rfl).trans ?_
  exact bh bf127_65 bf127_68 rfl (fun _ _ => am_ge_rf w) rfl
theorem bk127_50 {w : am_Wd} {l0 : Nat} : am_run 127 50 [some (.ref l0), none, none, none, none] [] w = (am_gf w l0 6 2).bind fun v => am_run 127 54 [some (.ref l0), none, none, none, none] (v :: []) w := by
  refine (bu (ls'' := [some (.ref l0), none, none, none, none]) (st' := [.ref l0]) bf127_50 bf127_51 rfl rfl).trans ?_
  exact bh bf127_51 bf127_54 rfl (fun _ _ => am_ge_rf w) rfl
theorem bk127_68 {w : am_Wd} {s0 : Nat} : am_run 127 68 [none, none, none, none, none] [.ref s0] w = (am_kf w s0 4).bind fun _ => (am_x 1 [.ref s0] w).bind fun r => bct r fun v w' => am_run 127 71 [none, none, none, none, none] (v.toList ++ []) w' := by
  exact bkV bf127_68 bf127_71 rfl (by decide +kernel) (Nat.le_of_ble_eq_true rfl) rfl (bhd rfl)
theorem bk127_54 {w : am_Wd} {l0 : Nat} {s0 : Nat} : am_run 127 54 [some (.ref l0), none, none, none, none] [.ref s0] w = (am_gf w l0 6 3).bind fun v => am_run 127 58 [none, none, none, none, none] (v :: [.ref s0]) w := by
  refine (bu (ls'' := [none, none, none, none, none]) (st' := [.ref l0, .ref s0]) bf127_54 bf127_55 rfl rfl).trans ?_
  exact bh bf127_55 bf127_58 rfl (fun _ _ => am_ge_rf w) rfl
theorem bk127_71 {w : am_Wd}  : am_run 127 71 [none, none, none, none, none] [] w = some (.inl none, w) := by
  exact am_e2 bf127_71 rfl (am_ge_rf w)
theorem bk127_58 {w : am_Wd} {s0 : Int32} {s1 : Nat} : am_run 127 58 [none, none, none, none, none] [.int s0, .ref s1] w = (am_kf w s1 4).bind fun _ => (am_x 2 [.ref s1, .int s0] w).bind fun r => bct r fun v w' => am_run 127 61 [none, none, none, none, none] (v.toList ++ []) w' := by
  exact bkV bf127_58 bf127_61 rfl (by decide +kernel) (Nat.le_of_ble_eq_true rfl) rfl (bhd rfl)
theorem bk127_61 {w : am_Wd}  : am_run 127 61 [none, none, none, none, none] [] w = am_run 127 71 [none, none, none, none, none] [] w := by
  refine (bu (ls'' := [none, none, none, none, none]) (st' := []) bf127_61 bf127_71 rfl rfl).trans ?_
  rfl
theorem bf128_0 : am_fetch (am_mth 128) 0 = some (.aload_n 0, 1, [], []) := by decide +kernel
theorem bf128_1 : am_fetch (am_mth 128) 1 = some (.getfield 21, 3, [0, 6, 2, 304], [0]) := by decide +kernel
theorem bf128_4 : am_fetch (am_mth 128) 4 = some (.invokevirtual 42, 3, [0, 72, 0, 4, 377, 378, 379, 30], [0]) := by decide +kernel
theorem bf128_7 : am_fetch (am_mth 128) 7 = some (.iconst 1, 1, [], [0]) := by decide +kernel
theorem bf128_8 : am_fetch (am_mth 128) 8 = some (.if_icmp .ne 7, 3, [], [0]) := by decide +kernel
theorem bf128_11 : am_fetch (am_mth 128) 11 = some (.iconst 1, 1, [], [0]) := by decide +kernel
theorem bf128_12 : am_fetch (am_mth 128) 12 = some (.goto 4, 3, [], [0]) := by decide +kernel
theorem bf128_15 : am_fetch (am_mth 128) 15 = some (.iconst 0, 1, [], [0]) := by decide +kernel
theorem bf128_16 : am_fetch (am_mth 128) 16 = some (.ireturn, 1, [1], [0]) := by decide +kernel
theorem bk128_0 {w : am_Wd} {l0 : Nat} : am_run 128 0 [some (.ref l0)] [] w = (am_gf w l0 6 2).bind fun v => am_run 128 4 [none] (v :: []) w := by
  refine (bu (ls'' := [none]) (st' := [.ref l0]) bf128_0 bf128_1 rfl rfl).trans ?_
  exact bh bf128_1 bf128_4 rfl (fun _ _ => am_ge_rf w) rfl
theorem bk128_4 {w : am_Wd} {s0 : Nat} : am_run 128 4 [none] [.ref s0] w = (am_kf w s0 4).bind fun _ => (am_x 72 [.ref s0] w).bind fun r => bct r fun v w' => am_run 128 7 [none] (v.toList ++ []) w' := by
  exact bkV bf128_4 bf128_7 rfl (by decide +kernel) (Nat.le_of_ble_eq_true rfl) rfl (bhd rfl)
theorem bk128_7 {w : am_Wd} {s0 : Int32} : am_run 128 7 [none] [.int s0] w = if ¬ s0 = (nI 1) then am_run 128 15 [none] [] w else am_run 128 11 [none] [] w := by
  refine (bu (ls'' := [none]) (st' := [.int (nI 1), .int s0]) bf128_7 bf128_8 rfl rfl).trans ?_
  exact bic bf128_8 rfl bf128_15 bf128_11 rfl rfl rfl
theorem bk128_15 {w : am_Wd}  : am_run 128 15 [none] [] w = am_run 128 16 [none] [.int (nI 0)] w := by
  refine (bu (ls'' := [none]) (st' := [.int (nI 0)]) bf128_15 bf128_16 rfl rfl).trans ?_
  rfl
theorem bk128_11 {w : am_Wd}  : am_run 128 11 [none] [] w = am_run 128 16 [none] [.int (nI 1)] w := by
  refine (bu (ls'' := [none]) (st' := [.int (nI 1)]) bf128_11 bf128_12 rfl rfl).trans ?_
  refine (bu (ls'' := [none]) (st' := [.int (nI 1)]) bf128_12 bf128_16 rfl rfl).trans ?_
  rfl
theorem bk128_16 {w : am_Wd} {s0 : Int32} (hb : am_ok (am_rt 1) (.int s0) = true) : am_run 128 16 [none] [.int s0] w = some (.inl (some (.int s0)), w) := by
  exact am_e2 bf128_16 (by unfold am_stp; exact if_pos ⟨by decide, hb⟩) (am_ge_rf w)
theorem bf129_0 : am_fetch (am_mth 129) 0 = some (.aload_n 0, 1, [], []) := by decide +kernel
theorem bf129_1 : am_fetch (am_mth 129) 1 = some (.getfield 21, 3, [0, 6, 2, 304], []) := by decide +kernel
theorem bf129_4 : am_fetch (am_mth 129) 4 = some (.invokevirtual 42, 3, [0, 72, 0, 4, 377, 378, 379, 30], []) := by decide +kernel
theorem bf129_7 : am_fetch (am_mth 129) 7 = some (.ifCond .ne 20, 3, [], []) := by decide +kernel
theorem bf129_10 : am_fetch (am_mth 129) 10 = some (.aload_n 0, 1, [], []) := by decide +kernel
theorem bf129_11 : am_fetch (am_mth 129) 11 = some (.getfield 21, 3, [0, 6, 2, 304], []) := by decide +kernel
theorem bf129_14 : am_fetch (am_mth 129) 14 = some (.invokevirtual 39, 3, [0, 1, 0, 4, 296, 297, 298, 30], []) := by decide +kernel
theorem bf129_17 : am_fetch (am_mth 129) 17 = some (.aload_n 0, 1, [], []) := by decide +kernel
theorem bf129_18 : am_fetch (am_mth 129) 18 = some (.dup, 1, [], [0]) := by decide +kernel
theorem bf129_19 : am_fetch (am_mth 129) 19 = some (.getfield 85, 3, [0, 6, 5, 309], [0]) := by decide +kernel
theorem bf129_22 : am_fetch (am_mth 129) 22 = some (.iconst 1, 1, [], [0]) := by decide +kernel
theorem bf129_23 : am_fetch (am_mth 129) 23 = some (.iadd, 1, [], [0]) := by decide +kernel
theorem bf129_24 : am_fetch (am_mth 129) 24 = some (.putfield 85, 3, [0, 6, 5, 309], [0]) := by decide +kernel
theorem bf129_27 : am_fetch (am_mth 129) 27 = some (.return_, 1, [], [0]) := by decide +kernel
theorem bk129_0 {w : am_Wd} {l0 : Nat} : am_run 129 0 [some (.ref l0)] [] w = (am_gf w l0 6 2).bind fun v => am_run 129 4 [some (.ref l0)] (v :: []) w := by
  refine (bu (ls'' := [some (.ref l0)]) (st' := [.ref l0]) bf129_0 bf129_1 rfl rfl).trans ?_
  exact bh bf129_1 bf129_4 rfl (fun _ _ => am_ge_rf w) rfl
theorem bk129_4 {w : am_Wd} {l0 : Nat} {s0 : Nat} : am_run 129 4 [some (.ref l0)] [.ref s0] w = (am_kf w s0 4).bind fun _ => (am_x 72 [.ref s0] w).bind fun r => bct r fun v w' => am_run 129 7 [some (.ref l0)] (v.toList ++ []) w' := by
  exact bkV bf129_4 bf129_7 rfl (by decide +kernel) (Nat.le_of_ble_eq_true rfl) rfl (bhd rfl)
theorem bk129_7 {w : am_Wd} {l0 : Nat} {s0 : Int32} : am_run 129 7 [some (.ref l0)] [.int s0] w = if ¬ s0 = nI 0 then am_run 129 27 [none] [] w else am_run 129 10 [some (.ref l0)] [] w := by
  exact bifc bf129_7 rfl bf129_27 bf129_10 rfl rfl rfl
theorem bk129_27 {w : am_Wd}  : am_run 129 27 [none] [] w = some (.inl none, w) := by
  exact am_e2 bf129_27 rfl (am_ge_rf w)
theorem bk129_10 {w : am_Wd} {l0 : Nat} : am_run 129 10 [some (.ref l0)] [] w = (am_gf w l0 6 2).bind fun v => am_run 129 14 [some (.ref l0)] (v :: []) w := by
  refine (bu (ls'' := [some (.ref l0)]) (st' := [.ref l0]) bf129_10 bf129_11 rfl rfl).trans ?_
  exact bh bf129_11 bf129_14 rfl (fun _ _ => am_ge_rf w) rfl
theorem bk129_14 {w : am_Wd} {l0 : Nat} {s0 : Nat} : am_run 129 14 [some (.ref l0)] [.ref s0] w = (am_kf w s0 4).bind fun _ => (am_x 1 [.ref s0] w).bind fun r => bct r fun v w' => am_run 129 17 [some (.ref l0)] (v.toList ++ []) w' := by
  exact bkV bf129_14 bf129_17 rfl (by decide +kernel) (Nat.le_of_ble_eq_true rfl) rfl (bhd rfl)
theorem bk129_17 {w : am_Wd} {l0 : Nat} : am_run 129 17 [some (.ref l0)] [] w = (am_gf w l0 6 5).bind fun v => am_run 129 22 [none] (v :: [.ref l0]) w := by
  refine (bu (ls'' := [none]) (st' := [.ref l0]) bf129_17 bf129_18 rfl rfl).trans ?_
  refine (bu (ls'' := [none]) (st' := [.ref l0, .ref l0]) bf129_18 bf129_19 rfl rfl).trans ?_
  exact bh bf129_19 bf129_22 rfl (fun _ _ => am_ge_rf w) rfl
theorem bk129_22 {w : am_Wd} {s0 : Int32} {s1 : Nat} : am_run 129 22 [none] [.int s0, .ref s1] w = (am_pf w s1 6 5 (.int (s0 + (nI 1)))).bind fun w' => am_run 129 27 [none] [] w' := by
  refine (bu (ls'' := [none]) (st' := [.int (nI 1), .int s0, .ref s1]) bf129_22 bf129_23 rfl rfl).trans ?_
  refine (bu (ls'' := [none]) (st' := [.int (s0 + (nI 1)), .ref s1]) bf129_23 bf129_24 rfl rfl).trans ?_
  exact bh bf129_24 bf129_27 rfl (bge_pf) rfl
theorem bf130_0 : am_fetch (am_mth 130) 0 = some (.aload_n 0, 1, [], [1]) := by decide +kernel
theorem bf130_1 : am_fetch (am_mth 130) 1 = some (.getfield 21, 3, [0, 6, 2, 304], [1]) := by decide +kernel
theorem bf130_4 : am_fetch (am_mth 130) 4 = some (.invokevirtual 42, 3, [0, 72, 0, 4, 377, 378, 379, 30], [1]) := by decide +kernel
theorem bf130_7 : am_fetch (am_mth 130) 7 = some (.istore_n 1, 1, [], [1]) := by decide +kernel
theorem bf130_8 : am_fetch (am_mth 130) 8 = some (.iload_n 1, 1, [], []) := by decide +kernel
theorem bf130_9 : am_fetch (am_mth 130) 9 = some (.iconst 1, 1, [], []) := by decide +kernel
theorem bf130_10 : am_fetch (am_mth 130) 10 = some (.if_icmp .lt 64, 3, [], []) := by decide +kernel
theorem bf130_13 : am_fetch (am_mth 130) 13 = some (.iload_n 1, 1, [], []) := by decide +kernel
theorem bf130_14 : am_fetch (am_mth 130) 14 = some (.sipush 144, 3, [], [1]) := by decide +kernel
theorem bf130_17 : am_fetch (am_mth 130) 17 = some (.if_icmp .gt 57, 3, [], [1]) := by decide +kernel
theorem bf130_20 : am_fetch (am_mth 130) 20 = some (.aload_n 0, 1, [], [1]) := by decide +kernel
theorem bf130_21 : am_fetch (am_mth 130) 21 = some (.getfield 32, 3, [0, 6, 4, 307], [1]) := by decide +kernel
theorem bf130_24 : am_fetch (am_mth 130) 24 = some (.ifCond .lt 50, 3, [], [1]) := by decide +kernel
theorem bf130_27 : am_fetch (am_mth 130) 27 = some (.aload_n 0, 1, [], [1]) := by decide +kernel
theorem bf130_28 : am_fetch (am_mth 130) 28 = some (.getfield 32, 3, [0, 6, 4, 307], [1]) := by decide +kernel
theorem bf130_31 : am_fetch (am_mth 130) 31 = some (.sipush 500, 3, [], [1]) := by decide +kernel
theorem bf130_34 : am_fetch (am_mth 130) 34 = some (.if_icmp .gt 40, 3, [], [1]) := by decide +kernel
theorem bf130_37 : am_fetch (am_mth 130) 37 = some (.aload_n 0, 1, [], [1]) := by decide +kernel
theorem bf130_38 : am_fetch (am_mth 130) 38 = some (.getfield 29, 3, [0, 6, 3, 306], [1]) := by decide +kernel
theorem bf130_41 : am_fetch (am_mth 130) 41 = some (.ifCond .lt 33, 3, [], [1]) := by decide +kernel
theorem bf130_44 : am_fetch (am_mth 130) 44 = some (.aload_n 0, 1, [], [1]) := by decide +kernel
theorem bf130_45 : am_fetch (am_mth 130) 45 = some (.getfield 29, 3, [0, 6, 3, 306], [1]) := by decide +kernel
theorem bf130_48 : am_fetch (am_mth 130) 48 = some (.sipush 144, 3, [], [1]) := by decide +kernel
theorem bf130_51 : am_fetch (am_mth 130) 51 = some (.if_icmp .ge 23, 3, [], [1]) := by decide +kernel
theorem bf130_54 : am_fetch (am_mth 130) 54 = some (.aload_n 0, 1, [], [1]) := by decide +kernel
theorem bf130_55 : am_fetch (am_mth 130) 55 = some (.getfield 128, 3, [0, 6, 6, 310], [1]) := by decide +kernel
theorem bf130_58 : am_fetch (am_mth 130) 58 = some (.aload_n 0, 1, [], [1]) := by decide +kernel
theorem bf130_59 : am_fetch (am_mth 130) 59 = some (.getfield 131, 3, [0, 6, 7, 313], [1]) := by decide +kernel
theorem bf130_62 : am_fetch (am_mth 130) 62 = some (.aload_n 0, 1, [], [1]) := by decide +kernel
theorem bf130_63 : am_fetch (am_mth 130) 63 = some (.getfield 134, 3, [0, 6, 8, 314], [0, 1]) := by decide +kernel
theorem bf130_66 : am_fetch (am_mth 130) 66 = some (.iadd, 1, [], [0, 1]) := by decide +kernel
theorem bf130_67 : am_fetch (am_mth 130) 67 = some (.if_icmp .lt 7, 3, [], [0, 1]) := by decide +kernel
theorem bf130_70 : am_fetch (am_mth 130) 70 = some (.iconst 1, 1, [], [0, 1]) := by decide +kernel
theorem bf130_71 : am_fetch (am_mth 130) 71 = some (.goto 4, 3, [], [0, 1]) := by decide +kernel
theorem bf130_74 : am_fetch (am_mth 130) 74 = some (.iconst 0, 1, [], [0, 1]) := by decide +kernel
theorem bf130_75 : am_fetch (am_mth 130) 75 = some (.ireturn, 1, [1], [0, 1]) := by decide +kernel
theorem bk130_0 {w : am_Wd} {l0 : Nat} : am_run 130 0 [some (.ref l0), none] [] w = (am_gf w l0 6 2).bind fun v => am_run 130 4 [some (.ref l0), none] (v :: []) w := by
  refine (bu (ls'' := [some (.ref l0), none]) (st' := [.ref l0]) bf130_0 bf130_1 rfl rfl).trans ?_
  exact bh bf130_1 bf130_4 rfl (fun _ _ => am_ge_rf w) rfl
theorem bk130_4 {w : am_Wd} {l0 : Nat} {s0 : Nat} : am_run 130 4 [some (.ref l0), none] [.ref s0] w = (am_kf w s0 4).bind fun _ => (am_x 72 [.ref s0] w).bind fun r => bct r fun v w' => am_run 130 7 [some (.ref l0), none] (v.toList ++ []) w' := by
  exact bkV bf130_4 bf130_7 rfl (by decide +kernel) (Nat.le_of_ble_eq_true rfl) rfl (bhd rfl)
theorem bk130_7 {w : am_Wd} {l0 : Nat} {s0 : Int32} : am_run 130 7 [some (.ref l0), none] [.int s0] w = if s0 < (nI 1) then am_run 130 74 [none, none] [] w else am_run 130 13 [some (.ref l0), some (.int s0)] [] w := by
  refine (bu (ls'' := [some (.ref l0), some (.int s0)]) (st' := []) bf130_7 bf130_8 rfl rfl).trans ?_
  refine (bu (ls'' := [some (.ref l0), some (.int s0)]) (st' := [.int s0]) bf130_8 bf130_9 rfl rfl).trans ?_
  refine (bu (ls'' := [some (.ref l0), some (.int s0)]) (st' := [.int (nI 1), .int s0]) bf130_9 bf130_10 rfl rfl).trans ?_
  exact bic bf130_10 rfl bf130_74 bf130_13 rfl rfl rfl
theorem bk130_74 {w : am_Wd}  : am_run 130 74 [none, none] [] w = am_run 130 75 [none, none] [.int (nI 0)] w := by
  refine (bu (ls'' := [none, none]) (st' := [.int (nI 0)]) bf130_74 bf130_75 rfl rfl).trans ?_
  rfl
theorem bk130_13 {w : am_Wd} {l0 : Nat} {l1 : Int32} : am_run 130 13 [some (.ref l0), some (.int l1)] [] w = if (nI 144) < l1 then am_run 130 74 [none, none] [] w else am_run 130 20 [some (.ref l0), none] [] w := by
  refine (bu (ls'' := [some (.ref l0), none]) (st' := [.int l1]) bf130_13 bf130_14 rfl rfl).trans ?_
  refine (bu (ls'' := [some (.ref l0), none]) (st' := [.int (nI 144), .int l1]) bf130_14 bf130_17 rfl rfl).trans ?_
  exact bic bf130_17 rfl bf130_74 bf130_20 rfl rfl rfl
theorem bk130_75 {w : am_Wd} {s0 : Int32} (hb : am_ok (am_rt 1) (.int s0) = true) : am_run 130 75 [none, none] [.int s0] w = some (.inl (some (.int s0)), w) := by
  exact am_e2 bf130_75 (by unfold am_stp; exact if_pos ⟨by decide, hb⟩) (am_ge_rf w)
theorem bk130_20 {w : am_Wd} {l0 : Nat} : am_run 130 20 [some (.ref l0), none] [] w = (am_gf w l0 6 4).bind fun v => am_run 130 24 [some (.ref l0), none] (v :: []) w := by
  refine (bu (ls'' := [some (.ref l0), none]) (st' := [.ref l0]) bf130_20 bf130_21 rfl rfl).trans ?_
  exact bh bf130_21 bf130_24 rfl (fun _ _ => am_ge_rf w) rfl
theorem bk130_24 {w : am_Wd} {l0 : Nat} {s0 : Int32} : am_run 130 24 [some (.ref l0), none] [.int s0] w = if s0 < nI 0 then am_run 130 74 [none, none] [] w else am_run 130 27 [some (.ref l0), none] [] w := by
  exact bifc bf130_24 rfl bf130_74 bf130_27 rfl rfl rfl
theorem bk130_27 {w : am_Wd} {l0 : Nat} : am_run 130 27 [some (.ref l0), none] [] w = (am_gf w l0 6 4).bind fun v => am_run 130 31 [some (.ref l0), none] (v :: []) w := by
  refine (bu (ls'' := [some (.ref l0), none]) (st' := [.ref l0]) bf130_27 bf130_28 rfl rfl).trans ?_
  exact bh bf130_28 bf130_31 rfl (fun _ _ => am_ge_rf w) rfl
theorem bk130_31 {w : am_Wd} {l0 : Nat} {s0 : Int32} : am_run 130 31 [some (.ref l0), none] [.int s0] w = if (nI 500) < s0 then am_run 130 74 [none, none] [] w else am_run 130 37 [some (.ref l0), none] [] w := by
  refine (bu (ls'' := [some (.ref l0), none]) (st' := [.int (nI 500), .int s0]) bf130_31 bf130_34 rfl rfl).trans ?_
  exact bic bf130_34 rfl bf130_74 bf130_37 rfl rfl rfl
theorem bk130_37 {w : am_Wd} {l0 : Nat} : am_run 130 37 [some (.ref l0), none] [] w = (am_gf w l0 6 3).bind fun v => am_run 130 41 [some (.ref l0), none] (v :: []) w := by
  refine (bu (ls'' := [some (.ref l0), none]) (st' := [.ref l0]) bf130_37 bf130_38 rfl rfl).trans ?_
  exact bh bf130_38 bf130_41 rfl (fun _ _ => am_ge_rf w) rfl
theorem bk130_41 {w : am_Wd} {l0 : Nat} {s0 : Int32} : am_run 130 41 [some (.ref l0), none] [.int s0] w = if s0 < nI 0 then am_run 130 74 [none, none] [] w else am_run 130 44 [some (.ref l0), none] [] w := by
  exact bifc bf130_41 rfl bf130_74 bf130_44 rfl rfl rfl
theorem bk130_44 {w : am_Wd} {l0 : Nat} : am_run 130 44 [some (.ref l0), none] [] w = (am_gf w l0 6 3).bind fun v => am_run 130 48 [some (.ref l0), none] (v :: []) w := by
  refine (bu (ls'' := [some (.ref l0), none]) (st' := [.ref l0]) bf130_44 bf130_45 rfl rfl).trans ?_
  exact bh bf130_45 bf130_48 rfl (fun _ _ => am_ge_rf w) rfl
theorem bk130_48 {w : am_Wd} {l0 : Nat} {s0 : Int32} : am_run 130 48 [some (.ref l0), none] [.int s0] w = if (nI 144) ≤ s0 then am_run 130 74 [none, none] [] w else am_run 130 54 [some (.ref l0), none] [] w := by
  refine (bu (ls'' := [some (.ref l0), none]) (st' := [.int (nI 144), .int s0]) bf130_48 bf130_51 rfl rfl).trans ?_
  exact bic bf130_51 rfl bf130_74 bf130_54 rfl rfl rfl
theorem bk130_54 {w : am_Wd} {l0 : Nat} : am_run 130 54 [some (.ref l0), none] [] w = (am_gf w l0 6 6).bind fun v => am_run 130 58 [some (.ref l0), none] (v :: []) w := by
  refine (bu (ls'' := [some (.ref l0), none]) (st' := [.ref l0]) bf130_54 bf130_55 rfl rfl).trans ?_
  exact bh bf130_55 bf130_58 rfl (fun _ _ => am_ge_rf w) rfl
theorem bk130_58 {w : am_Wd} {l0 : Nat} {s0 : Int32} : am_run 130 58 [some (.ref l0), none] [.int s0] w = (am_gf w l0 6 7).bind fun v => am_run 130 62 [some (.ref l0), none] (v :: [.int s0]) w := by
  refine (bu (ls'' := [some (.ref l0), none]) (st' := [.ref l0, .int s0]) bf130_58 bf130_59 rfl rfl).trans ?_
  exact bh bf130_59 bf130_62 rfl (fun _ _ => am_ge_rf w) rfl
theorem bk130_62 {w : am_Wd} {l0 : Nat} {s0 : Int32} {s1 : Int32} : am_run 130 62 [some (.ref l0), none] [.int s0, .int s1] w = (am_gf w l0 6 8).bind fun v => am_run 130 66 [none, none] (v :: [.int s0, .int s1]) w := by
  refine (bu (ls'' := [none, none]) (st' := [.ref l0, .int s0, .int s1]) bf130_62 bf130_63 rfl rfl).trans ?_
  exact bh bf130_63 bf130_66 rfl (fun _ _ => am_ge_rf w) rfl
theorem bk130_66 {w : am_Wd} {s0 : Int32} {s1 : Int32} {s2 : Int32} : am_run 130 66 [none, none] [.int s0, .int s1, .int s2] w = if s2 < (s1 + s0) then am_run 130 74 [none, none] [] w else am_run 130 70 [none, none] [] w := by
  refine (bu (ls'' := [none, none]) (st' := [.int (s1 + s0), .int s2]) bf130_66 bf130_67 rfl rfl).trans ?_
  exact bic bf130_67 rfl bf130_74 bf130_70 rfl rfl rfl
theorem bk130_70 {w : am_Wd}  : am_run 130 70 [none, none] [] w = am_run 130 75 [none, none] [.int (nI 1)] w := by
  refine (bu (ls'' := [none, none]) (st' := [.int (nI 1)]) bf130_70 bf130_71 rfl rfl).trans ?_
  refine (bu (ls'' := [none, none]) (st' := [.int (nI 1)]) bf130_71 bf130_75 rfl rfl).trans ?_
  rfl
theorem bf132_0 : am_fetch (am_mth 132) 0 = some (.lconst 0, 1, [], [2, 3, 4, 5, 6, 7]) := by decide +kernel
theorem bf132_1 : am_fetch (am_mth 132) 1 = some (.lstore_n 2, 1, [], [2, 3, 4, 5, 6, 7]) := by decide +kernel
theorem bf132_2 : am_fetch (am_mth 132) 2 = some (.iconst 0, 1, [], [3, 4, 5, 6, 7]) := by decide +kernel
theorem bf132_3 : am_fetch (am_mth 132) 3 = some (.istore 4, 2, [], [3, 4, 5, 6, 7]) := by decide +kernel
theorem bf132_5 : am_fetch (am_mth 132) 5 = some (.iload 4, 2, [], [3, 5, 6, 7]) := by decide +kernel
theorem bf132_7 : am_fetch (am_mth 132) 7 = some (.iconst 4, 1, [], [3, 5, 6, 7]) := by decide +kernel
theorem bf132_8 : am_fetch (am_mth 132) 8 = some (.if_icmp .ge 18, 3, [], [3, 5, 6, 7]) := by decide +kernel
theorem bf132_11 : am_fetch (am_mth 132) 11 = some (.lload_n 2, 1, [], [3, 5, 6, 7]) := by decide +kernel
theorem bf132_12 : am_fetch (am_mth 132) 12 = some (.aload_n 0, 1, [], [2, 3, 5, 6, 7]) := by decide +kernel
theorem bf132_13 : am_fetch (am_mth 132) 13 = some (.iload 4, 2, [], [2, 3, 5, 6, 7]) := by decide +kernel
theorem bf132_15 : am_fetch (am_mth 132) 15 = some (.invokevirtual 46, 3, [0, 22, 1, 7, 524, 526, 7, 29], [2, 3, 5, 6, 7]) := by decide +kernel
theorem bf132_18 : am_fetch (am_mth 132) 18 = some (.lor, 1, [], [2, 3, 5, 6, 7]) := by decide +kernel
theorem bf132_19 : am_fetch (am_mth 132) 19 = some (.lstore_n 2, 1, [], [2, 3, 5, 6, 7]) := by decide +kernel
theorem bf132_20 : am_fetch (am_mth 132) 20 = some (.iinc 4 1, 3, [], [3, 5, 6, 7]) := by decide +kernel
theorem bf132_23 : am_fetch (am_mth 132) 23 = some (.goto (-18), 3, [], [3, 5, 6, 7]) := by decide +kernel
theorem bf132_26 : am_fetch (am_mth 132) 26 = some (.lconst 1, 1, [], [3, 4, 5, 6, 7]) := by decide +kernel
theorem bf132_27 : am_fetch (am_mth 132) 27 = some (.iload_n 1, 1, [], [3, 4, 5, 6, 7]) := by decide +kernel
theorem bf132_28 : am_fetch (am_mth 132) 28 = some (.lshl, 1, [], [1, 3, 4, 5, 6, 7]) := by decide +kernel
theorem bf132_29 : am_fetch (am_mth 132) 29 = some (.lstore 4, 2, [], [1, 3, 4, 5, 6, 7]) := by decide +kernel
theorem bf132_31 : am_fetch (am_mth 132) 31 = some (.iconst 0, 1, [], [1, 3, 5, 6, 7]) := by decide +kernel
theorem bf132_32 : am_fetch (am_mth 132) 32 = some (.istore 6, 2, [], [1, 3, 5, 6, 7]) := by decide +kernel
theorem bf132_34 : am_fetch (am_mth 132) 34 = some (.iload 6, 2, [], [1, 3, 5, 7]) := by decide +kernel
theorem bf132_36 : am_fetch (am_mth 132) 36 = some (.bipush 36, 2, [], [1, 3, 5, 7]) := by decide +kernel
theorem bf132_38 : am_fetch (am_mth 132) 38 = some (.if_icmp .ge 35, 3, [], [1, 3, 5, 7]) := by decide +kernel
theorem bf132_41 : am_fetch (am_mth 132) 41 = some (.lload 4, 2, [], [1, 3, 5, 7]) := by decide +kernel
theorem bf132_43 : am_fetch (am_mth 132) 43 = some (.lload_n 2, 1, [], [1, 3, 5, 7]) := by decide +kernel
theorem bf132_44 : am_fetch (am_mth 132) 44 = some (.land, 1, [], [1, 3, 5, 7]) := by decide +kernel
theorem bf132_45 : am_fetch (am_mth 132) 45 = some (.invokestatic 58, 3, [0, 88, 1, 528, 529, 29], [1, 3, 5, 7]) := by decide +kernel
theorem bf132_48 : am_fetch (am_mth 132) 48 = some (.istore 7, 2, [], [1, 3, 5, 7]) := by decide +kernel
theorem bf132_50 : am_fetch (am_mth 132) 50 = some (.iload 7, 2, [], [1, 3, 5]) := by decide +kernel
theorem bf132_52 : am_fetch (am_mth 132) 52 = some (.iconst (-1), 1, [], [1, 3, 5]) := by decide +kernel
theorem bf132_53 : am_fetch (am_mth 132) 53 = some (.if_icmp .eq 6, 3, [], [1, 3, 5]) := by decide +kernel
theorem bf132_56 : am_fetch (am_mth 132) 56 = some (.iload 7, 2, [], [0, 1, 2, 3, 4, 5, 6]) := by decide +kernel
theorem bf132_58 : am_fetch (am_mth 132) 58 = some (.ireturn, 1, [0], [0, 1, 2, 3, 4, 5, 6, 7]) := by decide +kernel
theorem bf132_59 : am_fetch (am_mth 132) 59 = some (.aload_n 0, 1, [], [1, 3, 5, 7]) := by decide +kernel
theorem bf132_60 : am_fetch (am_mth 132) 60 = some (.lload 4, 2, [], [1, 3, 5, 7]) := by decide +kernel
theorem bf132_62 : am_fetch (am_mth 132) 62 = some (.invokevirtual 54, 3, [0, 23, 1, 7, 412, 414, 3, 29], [1, 3, 4, 5, 7]) := by decide +kernel
theorem bf132_65 : am_fetch (am_mth 132) 65 = some (.lstore 4, 2, [], [1, 3, 4, 5, 7]) := by decide +kernel
theorem bf132_67 : am_fetch (am_mth 132) 67 = some (.iinc 6 1, 3, [], [1, 3, 5, 7]) := by decide +kernel
theorem bf132_70 : am_fetch (am_mth 132) 70 = some (.goto (-36), 3, [], [1, 3, 5, 7]) := by decide +kernel
theorem bf132_73 : am_fetch (am_mth 132) 73 = some (.iconst (-1), 1, [], [0, 1, 2, 3, 4, 5, 6, 7]) := by decide +kernel
theorem bf132_74 : am_fetch (am_mth 132) 74 = some (.ireturn, 1, [0], [0, 1, 2, 3, 4, 5, 6, 7]) := by decide +kernel
theorem bk132_0 {w : am_Wd} {l0 : Nat} {l1 : Int32} : am_run 132 0 [some (.ref l0), some (.int l1), none, none, none, none, none, none] [] w = am_run 132 5 [some (.ref l0), some (.int l1), some (.long (lN 0)), none, some (.int (nI 0)), none, none, none] [] w := by
  refine (bu (ls'' := [some (.ref l0), some (.int l1), none, none, none, none, none, none]) (st' := [.long (lN 0)]) bf132_0 bf132_1 rfl rfl).trans ?_
  refine (bu (ls'' := [some (.ref l0), some (.int l1), some (.long (lN 0)), none, none, none, none, none]) (st' := []) bf132_1 bf132_2 rfl rfl).trans ?_
  refine (bu (ls'' := [some (.ref l0), some (.int l1), some (.long (lN 0)), none, none, none, none, none]) (st' := [.int (nI 0)]) bf132_2 bf132_3 rfl rfl).trans ?_
  refine (bu (ls'' := [some (.ref l0), some (.int l1), some (.long (lN 0)), none, some (.int (nI 0)), none, none, none]) (st' := []) bf132_3 bf132_5 rfl rfl).trans ?_
  rfl
theorem bk132_5 {w : am_Wd} {l0 : Nat} {l1 : Int32} {l2 : Int64} {l4 : Int32} : am_run 132 5 [some (.ref l0), some (.int l1), some (.long l2), none, some (.int l4), none, none, none] [] w = if (nI 4) ≤ l4 then am_run 132 26 [some (.ref l0), some (.int l1), some (.long l2), none, none, none, none, none] [] w else am_run 132 11 [some (.ref l0), some (.int l1), some (.long l2), none, some (.int l4), none, none, none] [] w := by
  refine (bu (ls'' := [some (.ref l0), some (.int l1), some (.long l2), none, some (.int l4), none, none, none]) (st' := [.int l4]) bf132_5 bf132_7 rfl rfl).trans ?_
  refine (bu (ls'' := [some (.ref l0), some (.int l1), some (.long l2), none, some (.int l4), none, none, none]) (st' := [.int (nI 4), .int l4]) bf132_7 bf132_8 rfl rfl).trans ?_
  exact bic bf132_8 rfl bf132_26 bf132_11 rfl rfl rfl
theorem bk132_26 {w : am_Wd} {l0 : Nat} {l1 : Int32} {l2 : Int64} : am_run 132 26 [some (.ref l0), some (.int l1), some (.long l2), none, none, none, none, none] [] w = am_run 132 34 [some (.ref l0), none, some (.long l2), none, some (.long (bj_lshl (lN 1) l1)), none, some (.int (nI 0)), none] [] w := by
  refine (bu (ls'' := [some (.ref l0), some (.int l1), some (.long l2), none, none, none, none, none]) (st' := [.long (lN 1)]) bf132_26 bf132_27 rfl rfl).trans ?_
  refine (bu (ls'' := [some (.ref l0), none, some (.long l2), none, none, none, none, none]) (st' := [.int l1, .long (lN 1)]) bf132_27 bf132_28 rfl rfl).trans ?_
  refine (bu (ls'' := [some (.ref l0), none, some (.long l2), none, none, none, none, none]) (st' := [.long (bj_lshl (lN 1) l1)]) bf132_28 bf132_29 rfl rfl).trans ?_
  refine (bu (ls'' := [some (.ref l0), none, some (.long l2), none, some (.long (bj_lshl (lN 1) l1)), none, none, none]) (st' := []) bf132_29 bf132_31 rfl rfl).trans ?_
  refine (bu (ls'' := [some (.ref l0), none, some (.long l2), none, some (.long (bj_lshl (lN 1) l1)), none, none, none]) (st' := [.int (nI 0)]) bf132_31 bf132_32 rfl rfl).trans ?_
  refine (bu (ls'' := [some (.ref l0), none, some (.long l2), none, some (.long (bj_lshl (lN 1) l1)), none, some (.int (nI 0)), none]) (st' := []) bf132_32 bf132_34 rfl rfl).trans ?_
  rfl
theorem bk132_11 {w : am_Wd} {l0 : Nat} {l1 : Int32} {l2 : Int64} {l4 : Int32} : am_run 132 11 [some (.ref l0), some (.int l1), some (.long l2), none, some (.int l4), none, none, none] [] w = (am_kf w l0 7).bind fun _ => (am_x 22 [.ref l0, .int l4] w).bind fun r => bct r fun v w' => am_run 132 18 [some (.ref l0), some (.int l1), none, none, some (.int l4), none, none, none] (v.toList ++ [.long l2]) w' := by
  refine (bu (ls'' := [some (.ref l0), some (.int l1), none, none, some (.int l4), none, none, none]) (st' := [.long l2]) bf132_11 bf132_12 rfl rfl).trans ?_
  refine (bu (ls'' := [some (.ref l0), some (.int l1), none, none, some (.int l4), none, none, none]) (st' := [.ref l0, .long l2]) bf132_12 bf132_13 rfl rfl).trans ?_
  refine (bu (ls'' := [some (.ref l0), some (.int l1), none, none, some (.int l4), none, none, none]) (st' := [.int l4, .ref l0, .long l2]) bf132_13 bf132_15 rfl rfl).trans ?_
  exact bkV bf132_15 bf132_18 rfl (by decide +kernel) (Nat.le_of_ble_eq_true rfl) rfl (bhd rfl)
theorem bk132_34 {w : am_Wd} {l0 : Nat} {l2 : Int64} {l4 : Int64} {l6 : Int32} : am_run 132 34 [some (.ref l0), none, some (.long l2), none, some (.long l4), none, some (.int l6), none] [] w = if (nI 36) ≤ l6 then am_run 132 73 [none, none, none, none, none, none, none, none] [] w else am_run 132 41 [some (.ref l0), none, some (.long l2), none, some (.long l4), none, some (.int l6), none] [] w := by
  refine (bu (ls'' := [some (.ref l0), none, some (.long l2), none, some (.long l4), none, some (.int l6), none]) (st' := [.int l6]) bf132_34 bf132_36 rfl rfl).trans ?_
  refine (bu (ls'' := [some (.ref l0), none, some (.long l2), none, some (.long l4), none, some (.int l6), none]) (st' := [.int (nI 36), .int l6]) bf132_36 bf132_38 rfl rfl).trans ?_
  exact bic bf132_38 rfl bf132_73 bf132_41 rfl rfl rfl
theorem bk132_18 {w : am_Wd} {l0 : Nat} {l1 : Int32} {l4 : Int32} {s0 : Int64} {s1 : Int64} : am_run 132 18 [some (.ref l0), some (.int l1), none, none, some (.int l4), none, none, none] [.long s0, .long s1] w = am_run 132 5 [some (.ref l0), some (.int l1), some (.long (s1 ||| s0)), none, some (.int (l4 + (nI 1))), none, none, none] [] w := by
  refine (bu (ls'' := [some (.ref l0), some (.int l1), none, none, some (.int l4), none, none, none]) (st' := [.long (s1 ||| s0)]) bf132_18 bf132_19 rfl rfl).trans ?_
  refine (bu (ls'' := [some (.ref l0), some (.int l1), some (.long (s1 ||| s0)), none, some (.int l4), none, none, none]) (st' := []) bf132_19 bf132_20 rfl rfl).trans ?_
  refine (bu (ls'' := [some (.ref l0), some (.int l1), some (.long (s1 ||| s0)), none, some (.int (l4 + (nI 1))), none, none, none]) (st' := []) bf132_20 bf132_23 rfl rfl).trans ?_
  refine (bu (ls'' := [some (.ref l0), some (.int l1), some (.long (s1 ||| s0)), none, some (.int (l4 + (nI 1))), none, none, none]) (st' := []) bf132_23 bf132_5 rfl rfl).trans ?_
  rfl
theorem bk132_73 {w : am_Wd}  : am_run 132 73 [none, none, none, none, none, none, none, none] [] w = some (.inl (some (.int (-1 : Int32))), w) := by
  refine (bu (ls'' := [none, none, none, none, none, none, none, none]) (st' := [.int (-1 : Int32)]) bf132_73 bf132_74 rfl rfl).trans ?_
  exact am_e2 bf132_74 rfl (am_ge_rf w)
theorem bk132_41 {w : am_Wd} {l0 : Nat} {l2 : Int64} {l4 : Int64} {l6 : Int32} : am_run 132 41 [some (.ref l0), none, some (.long l2), none, some (.long l4), none, some (.int l6), none] [] w = (am_x 88 [.long (l4 &&& l2)] w).bind fun r => bct r fun v w' => am_run 132 48 [some (.ref l0), none, some (.long l2), none, some (.long l4), none, some (.int l6), none] (v.toList ++ []) w' := by
  refine (bu (ls'' := [some (.ref l0), none, some (.long l2), none, some (.long l4), none, some (.int l6), none]) (st' := [.long l4]) bf132_41 bf132_43 rfl rfl).trans ?_
  refine (bu (ls'' := [some (.ref l0), none, some (.long l2), none, some (.long l4), none, some (.int l6), none]) (st' := [.long l2, .long l4]) bf132_43 bf132_44 rfl rfl).trans ?_
  refine (bu (ls'' := [some (.ref l0), none, some (.long l2), none, some (.long l4), none, some (.int l6), none]) (st' := [.long (l4 &&& l2)]) bf132_44 bf132_45 rfl rfl).trans ?_
  exact bkS bf132_45 bf132_48 rfl (by decide +kernel) (Nat.le_of_ble_eq_true rfl) rfl (bhd rfl)
theorem bk132_48 {w : am_Wd} {l0 : Nat} {l2 : Int64} {l4 : Int64} {l6 : Int32} {s0 : Int32} : am_run 132 48 [some (.ref l0), none, some (.long l2), none, some (.long l4), none, some (.int l6), none] [.int s0] w = if s0 = (-1 : Int32) then am_run 132 59 [some (.ref l0), none, some (.long l2), none, some (.long l4), none, some (.int l6), none] [] w else am_run 132 56 [none, none, none, none, none, none, none, some (.int s0)] [] w := by
  refine (bu (ls'' := [some (.ref l0), none, some (.long l2), none, some (.long l4), none, some (.int l6), some (.int s0)]) (st' := []) bf132_48 bf132_50 rfl rfl).trans ?_
  refine (bu (ls'' := [some (.ref l0), none, some (.long l2), none, some (.long l4), none, some (.int l6), some (.int s0)]) (st' := [.int s0]) bf132_50 bf132_52 rfl rfl).trans ?_
  refine (bu (ls'' := [some (.ref l0), none, some (.long l2), none, some (.long l4), none, some (.int l6), some (.int s0)]) (st' := [.int (-1 : Int32), .int s0]) bf132_52 bf132_53 rfl rfl).trans ?_
  exact bic bf132_53 rfl bf132_59 bf132_56 rfl rfl rfl
theorem bk132_59 {w : am_Wd} {l0 : Nat} {l2 : Int64} {l4 : Int64} {l6 : Int32} : am_run 132 59 [some (.ref l0), none, some (.long l2), none, some (.long l4), none, some (.int l6), none] [] w = (am_kf w l0 7).bind fun _ => (am_x 23 [.ref l0, .long l4] w).bind fun r => bct r fun v w' => am_run 132 65 [some (.ref l0), none, some (.long l2), none, none, none, some (.int l6), none] (v.toList ++ []) w' := by
  refine (bu (ls'' := [some (.ref l0), none, some (.long l2), none, some (.long l4), none, some (.int l6), none]) (st' := [.ref l0]) bf132_59 bf132_60 rfl rfl).trans ?_
  refine (bu (ls'' := [some (.ref l0), none, some (.long l2), none, none, none, some (.int l6), none]) (st' := [.long l4, .ref l0]) bf132_60 bf132_62 rfl rfl).trans ?_
  exact bkV bf132_62 bf132_65 rfl (by decide +kernel) (Nat.le_of_ble_eq_true rfl) rfl (bhd rfl)
theorem bk132_56 {w : am_Wd} {l7 : Int32} : am_run 132 56 [none, none, none, none, none, none, none, some (.int l7)] [] w = some (.inl (some (.int l7)), w) := by
  refine (bu (ls'' := [none, none, none, none, none, none, none, none]) (st' := [.int l7]) bf132_56 bf132_58 rfl rfl).trans ?_
  exact am_e2 bf132_58 rfl (am_ge_rf w)
theorem bk132_65 {w : am_Wd} {l0 : Nat} {l2 : Int64} {l6 : Int32} {s0 : Int64} : am_run 132 65 [some (.ref l0), none, some (.long l2), none, none, none, some (.int l6), none] [.long s0] w = am_run 132 34 [some (.ref l0), none, some (.long l2), none, some (.long s0), none, some (.int (l6 + (nI 1))), none] [] w := by
  refine (bu (ls'' := [some (.ref l0), none, some (.long l2), none, some (.long s0), none, some (.int l6), none]) (st' := []) bf132_65 bf132_67 rfl rfl).trans ?_
  refine (bu (ls'' := [some (.ref l0), none, some (.long l2), none, some (.long s0), none, some (.int (l6 + (nI 1))), none]) (st' := []) bf132_67 bf132_70 rfl rfl).trans ?_
  refine (bu (ls'' := [some (.ref l0), none, some (.long l2), none, some (.long s0), none, some (.int (l6 + (nI 1))), none]) (st' := []) bf132_70 bf132_34 rfl rfl).trans ?_
  rfl
theorem bf135_0 : am_fetch (am_mth 135) 0 = some (.iload_n 1, 1, [], []) := by decide +kernel
theorem bf135_1 : am_fetch (am_mth 135) 1 = some (.iconst 1, 1, [], []) := by decide +kernel
theorem bf135_2 : am_fetch (am_mth 135) 2 = some (.sipush 600, 3, [], []) := by decide +kernel
theorem bf135_5 : am_fetch (am_mth 135) 5 = some (.invokestatic 43, 3, [0, 92, 3, 95, 96, 17], []) := by decide +kernel
theorem bf135_8 : am_fetch (am_mth 135) 8 = some (.aload_n 0, 1, [], []) := by decide +kernel
theorem bf135_9 : am_fetch (am_mth 135) 9 = some (.getfield 192, 3, [0, 8, 3, 66], []) := by decide +kernel
theorem bf135_12 : am_fetch (am_mth 135) 12 = some (.iload_n 1, 1, [], []) := by decide +kernel
theorem bf135_13 : am_fetch (am_mth 135) 13 = some (.iadd, 1, [], []) := by decide +kernel
theorem bf135_14 : am_fetch (am_mth 135) 14 = some (.sipush 3000, 3, [], []) := by decide +kernel
theorem bf135_17 : am_fetch (am_mth 135) 17 = some (.if_icmp .le 13, 3, [], []) := by decide +kernel
theorem bf135_20 : am_fetch (am_mth 135) 20 = some (.new 79, 3, [1, 2, 234, 27, 684, 195, 83], [0, 1]) := by decide +kernel
theorem bf135_23 : am_fetch (am_mth 135) 23 = some (.dup, 1, [], [0, 1]) := by decide +kernel
theorem bf135_24 : am_fetch (am_mth 135) 24 = some (.ldc 195, 2, [1, 12, 684], [0, 1]) := by decide +kernel
theorem bf135_26 : am_fetch (am_mth 135) 26 = some (.invokespecial 83, 3, [], [0, 1]) := by decide +kernel
theorem bf135_29 : am_fetch (am_mth 135) 29 = some (.athrow, 1, [], [0, 1]) := by decide +kernel
theorem bf135_30 : am_fetch (am_mth 135) 30 = some (.aload_n 0, 1, [], []) := by decide +kernel
theorem bf135_31 : am_fetch (am_mth 135) 31 = some (.dup, 1, [], []) := by decide +kernel
theorem bf135_32 : am_fetch (am_mth 135) 32 = some (.getfield 192, 3, [0, 8, 3, 66], []) := by decide +kernel
theorem bf135_35 : am_fetch (am_mth 135) 35 = some (.iload_n 1, 1, [], []) := by decide +kernel
theorem bf135_36 : am_fetch (am_mth 135) 36 = some (.iadd, 1, [], [1]) := by decide +kernel
theorem bf135_37 : am_fetch (am_mth 135) 37 = some (.putfield 192, 3, [0, 8, 3, 66], [1]) := by decide +kernel
theorem bf135_40 : am_fetch (am_mth 135) 40 = some (.aload_n 0, 1, [], [1]) := by decide +kernel
theorem bf135_41 : am_fetch (am_mth 135) 41 = some (.getfield 192, 3, [0, 8, 3, 66], [0, 1]) := by decide +kernel
theorem bf135_44 : am_fetch (am_mth 135) 44 = some (.ireturn, 1, [0], [0, 1]) := by decide +kernel
theorem bk135_0 {w : am_Wd} {l0 : Nat} {l1 : Int32} : am_run 135 0 [some (.ref l0), some (.int l1)] [] w = (am_x 92 [.int l1, .int (nI 1), .int (nI 600)] w).bind fun r => bct r fun v w' => am_run 135 8 [some (.ref l0), some (.int l1)] (v.toList ++ []) w' := by
  refine (bu (ls'' := [some (.ref l0), some (.int l1)]) (st' := [.int l1]) bf135_0 bf135_1 rfl rfl).trans ?_
  refine (bu (ls'' := [some (.ref l0), some (.int l1)]) (st' := [.int (nI 1), .int l1]) bf135_1 bf135_2 rfl rfl).trans ?_
  refine (bu (ls'' := [some (.ref l0), some (.int l1)]) (st' := [.int (nI 600), .int (nI 1), .int l1]) bf135_2 bf135_5 rfl rfl).trans ?_
  exact bkS bf135_5 bf135_8 rfl (by decide +kernel) (Nat.le_of_ble_eq_true rfl) rfl (bhd rfl)
theorem bk135_8 {w : am_Wd} {l0 : Nat} {l1 : Int32} : am_run 135 8 [some (.ref l0), some (.int l1)] [] w = (am_gf w l0 8 3).bind fun v => am_run 135 12 [some (.ref l0), some (.int l1)] (v :: []) w := by
  refine (bu (ls'' := [some (.ref l0), some (.int l1)]) (st' := [.ref l0]) bf135_8 bf135_9 rfl rfl).trans ?_
  exact bh bf135_9 bf135_12 rfl (fun _ _ => am_ge_rf w) rfl
theorem bk135_12 {w : am_Wd} {l0 : Nat} {l1 : Int32} {s0 : Int32} : am_run 135 12 [some (.ref l0), some (.int l1)] [.int s0] w = if (s0 + l1) ≤ (nI 3000) then am_run 135 30 [some (.ref l0), some (.int l1)] [] w else am_run 135 20 [none, none] [] w := by
  refine (bu (ls'' := [some (.ref l0), some (.int l1)]) (st' := [.int l1, .int s0]) bf135_12 bf135_13 rfl rfl).trans ?_
  refine (bu (ls'' := [some (.ref l0), some (.int l1)]) (st' := [.int (s0 + l1)]) bf135_13 bf135_14 rfl rfl).trans ?_
  refine (bu (ls'' := [some (.ref l0), some (.int l1)]) (st' := [.int (nI 3000), .int (s0 + l1)]) bf135_14 bf135_17 rfl rfl).trans ?_
  exact bic bf135_17 rfl bf135_30 bf135_20 rfl rfl rfl
theorem bk135_30 {w : am_Wd} {l0 : Nat} {l1 : Int32} : am_run 135 30 [some (.ref l0), some (.int l1)] [] w = (am_gf w l0 8 3).bind fun v => am_run 135 35 [some (.ref l0), some (.int l1)] (v :: [.ref l0]) w := by
  refine (bu (ls'' := [some (.ref l0), some (.int l1)]) (st' := [.ref l0]) bf135_30 bf135_31 rfl rfl).trans ?_
  refine (bu (ls'' := [some (.ref l0), some (.int l1)]) (st' := [.ref l0, .ref l0]) bf135_31 bf135_32 rfl rfl).trans ?_
  exact bh bf135_32 bf135_35 rfl (fun _ _ => am_ge_rf w) rfl
theorem bk135_20 {w : am_Wd}  : am_run 135 20 [none, none] [] w = some (.inr (am_xn 2), am_jk w 1 6) := by
  exact am_e2 bf135_20 rfl (am_ge_jk _ _ _)
theorem bk135_35 {w : am_Wd} {l0 : Nat} {l1 : Int32} {s0 : Int32} {s1 : Nat} : am_run 135 35 [some (.ref l0), some (.int l1)] [.int s0, .ref s1] w = (am_pf w s1 8 3 (.int (s0 + l1))).bind fun w' => am_run 135 40 [some (.ref l0), none] [] w' := by
  refine (bu (ls'' := [some (.ref l0), none]) (st' := [.int l1, .int s0, .ref s1]) bf135_35 bf135_36 rfl rfl).trans ?_
  refine (bu (ls'' := [some (.ref l0), none]) (st' := [.int (s0 + l1), .ref s1]) bf135_36 bf135_37 rfl rfl).trans ?_
  exact bh bf135_37 bf135_40 rfl (bge_pf) rfl
theorem bk135_40 {w : am_Wd} {l0 : Nat} : am_run 135 40 [some (.ref l0), none] [] w = (am_gf w l0 8 3).bind fun v => am_run 135 44 [none, none] (v :: []) w := by
  refine (bu (ls'' := [none, none]) (st' := [.ref l0]) bf135_40 bf135_41 rfl rfl).trans ?_
  exact bh bf135_41 bf135_44 rfl (fun _ _ => am_ge_rf w) rfl
theorem bk135_44 {w : am_Wd} {s0 : Int32} : am_run 135 44 [none, none] [.int s0] w = some (.inl (some (.int s0)), w) := by
  exact am_e2 bf135_44 rfl (am_ge_rf w)
theorem bf136_0 : am_fetch (am_mth 136) 0 = some (.iload_n 1, 1, [], []) := by decide +kernel
theorem bf136_1 : am_fetch (am_mth 136) 1 = some (.iconst 0, 1, [], []) := by decide +kernel
theorem bf136_2 : am_fetch (am_mth 136) 2 = some (.bipush 11, 2, [], []) := by decide +kernel
theorem bf136_4 : am_fetch (am_mth 136) 4 = some (.invokestatic 43, 3, [0, 92, 3, 95, 96, 17], []) := by decide +kernel
theorem bf136_7 : am_fetch (am_mth 136) 7 = some (.iload_n 1, 1, [], []) := by decide +kernel
theorem bf136_8 : am_fetch (am_mth 136) 8 = some (.tableswitch 142 0 10 #[60, 65, 70, 79, 88, 100, 111, 122, 127, 132, 137], 60, [], [1]) := by decide +kernel
theorem bf136_68 : am_fetch (am_mth 136) 68 = some (.aload_n 0, 1, [], [1]) := by decide +kernel
theorem bf136_69 : am_fetch (am_mth 136) 69 = some (.getfield 192, 3, [0, 8, 3, 66], [0, 1]) := by decide +kernel
theorem bf136_72 : am_fetch (am_mth 136) 72 = some (.ireturn, 1, [0], [0, 1]) := by decide +kernel
theorem bf136_73 : am_fetch (am_mth 136) 73 = some (.aload_n 0, 1, [], [1]) := by decide +kernel
theorem bf136_74 : am_fetch (am_mth 136) 74 = some (.invokevirtual 110, 3, [0, 33, 0, 8, 348, 350, 2, 17], [0, 1]) := by decide +kernel
theorem bf136_77 : am_fetch (am_mth 136) 77 = some (.ireturn, 1, [0], [0, 1]) := by decide +kernel
theorem bf136_78 : am_fetch (am_mth 136) 78 = some (.aload_n 0, 1, [], [1]) := by decide +kernel
theorem bf136_79 : am_fetch (am_mth 136) 79 = some (.getfield 10, 3, [0, 8, 0, 63], [0, 1]) := by decide +kernel
theorem bf136_82 : am_fetch (am_mth 136) 82 = some (.iconst 1, 1, [], [0, 1]) := by decide +kernel
theorem bf136_83 : am_fetch (am_mth 136) 83 = some (.invokevirtual 58, 3, [0, 10, 1, 5, 192, 193, 194, 18], [0, 1]) := by decide +kernel
theorem bf136_86 : am_fetch (am_mth 136) 86 = some (.ireturn, 1, [0], [0, 1]) := by decide +kernel
theorem bf136_87 : am_fetch (am_mth 136) 87 = some (.aload_n 0, 1, [], [1]) := by decide +kernel
theorem bf136_88 : am_fetch (am_mth 136) 88 = some (.getfield 10, 3, [0, 8, 0, 63], [0, 1]) := by decide +kernel
theorem bf136_91 : am_fetch (am_mth 136) 91 = some (.iconst 2, 1, [], [0, 1]) := by decide +kernel
theorem bf136_92 : am_fetch (am_mth 136) 92 = some (.invokevirtual 58, 3, [0, 10, 1, 5, 192, 193, 194, 18], [0, 1]) := by decide +kernel
theorem bf136_95 : am_fetch (am_mth 136) 95 = some (.ireturn, 1, [0], [0, 1]) := by decide +kernel
theorem bf136_96 : am_fetch (am_mth 136) 96 = some (.aload_n 0, 1, [], [1]) := by decide +kernel
theorem bf136_97 : am_fetch (am_mth 136) 97 = some (.getfield 10, 3, [0, 8, 0, 63], [1]) := by decide +kernel
theorem bf136_100 : am_fetch (am_mth 136) 100 = some (.aload_n 0, 1, [], [1]) := by decide +kernel
theorem bf136_101 : am_fetch (am_mth 136) 101 = some (.invokevirtual 110, 3, [0, 33, 0, 8, 348, 350, 2, 17], [0, 1]) := by decide +kernel
theorem bf136_104 : am_fetch (am_mth 136) 104 = some (.invokevirtual 214, 3, [0, 77, 1, 5, 400, 401, 402, 18], [0, 1]) := by decide +kernel
theorem bf136_107 : am_fetch (am_mth 136) 107 = some (.ireturn, 1, [0], [0, 1]) := by decide +kernel
theorem bf136_108 : am_fetch (am_mth 136) 108 = some (.aload_n 0, 1, [], [1]) := by decide +kernel
theorem bf136_109 : am_fetch (am_mth 136) 109 = some (.getfield 10, 3, [0, 8, 0, 63], [0, 1]) := by decide +kernel
theorem bf136_112 : am_fetch (am_mth 136) 112 = some (.getfield 217, 3, [1, 5, 2, 48], [0, 1]) := by decide +kernel
theorem bf136_115 : am_fetch (am_mth 136) 115 = some (.invokestatic 70, 3, [0, 50, 1, 224, 225, 26], [0, 1]) := by decide +kernel
theorem bf136_118 : am_fetch (am_mth 136) 118 = some (.ireturn, 1, [0], [0, 1]) := by decide +kernel
theorem bf136_119 : am_fetch (am_mth 136) 119 = some (.aload_n 0, 1, [], [1]) := by decide +kernel
theorem bf136_120 : am_fetch (am_mth 136) 120 = some (.getfield 10, 3, [0, 8, 0, 63], [0, 1]) := by decide +kernel
theorem bf136_123 : am_fetch (am_mth 136) 123 = some (.getfield 66, 3, [1, 5, 3, 49], [0, 1]) := by decide +kernel
theorem bf136_126 : am_fetch (am_mth 136) 126 = some (.invokestatic 70, 3, [0, 50, 1, 224, 225, 26], [0, 1]) := by decide +kernel
theorem bf136_129 : am_fetch (am_mth 136) 129 = some (.ireturn, 1, [0], [0, 1]) := by decide +kernel
theorem bf136_130 : am_fetch (am_mth 136) 130 = some (.aload_n 0, 1, [], [1]) := by decide +kernel
theorem bf136_131 : am_fetch (am_mth 136) 131 = some (.getfield 76, 3, [0, 8, 2, 65], [0, 1]) := by decide +kernel
theorem bf136_134 : am_fetch (am_mth 136) 134 = some (.ireturn, 1, [0], [0, 1]) := by decide +kernel
theorem bf136_135 : am_fetch (am_mth 136) 135 = some (.aload_n 0, 1, [], [1]) := by decide +kernel
theorem bf136_136 : am_fetch (am_mth 136) 136 = some (.getfield 220, 3, [0, 8, 5, 68], [0, 1]) := by decide +kernel
theorem bf136_139 : am_fetch (am_mth 136) 139 = some (.ireturn, 1, [0], [0, 1]) := by decide +kernel
theorem bf136_140 : am_fetch (am_mth 136) 140 = some (.aload_n 0, 1, [], [1]) := by decide +kernel
theorem bf136_141 : am_fetch (am_mth 136) 141 = some (.getfield 173, 3, [0, 8, 6, 69], [0, 1]) := by decide +kernel
theorem bf136_144 : am_fetch (am_mth 136) 144 = some (.ireturn, 1, [0], [0, 1]) := by decide +kernel
theorem bf136_145 : am_fetch (am_mth 136) 145 = some (.aload_n 0, 1, [], [1]) := by decide +kernel
theorem bf136_146 : am_fetch (am_mth 136) 146 = some (.getfield 176, 3, [0, 8, 7, 70], [0, 1]) := by decide +kernel
theorem bf136_149 : am_fetch (am_mth 136) 149 = some (.ireturn, 1, [0], [0, 1]) := by decide +kernel
theorem bf136_150 : am_fetch (am_mth 136) 150 = some (.aload_n 0, 1, [], [1]) := by decide +kernel
theorem bf136_151 : am_fetch (am_mth 136) 151 = some (.getfield 197, 3, [0, 8, 8, 71], [0, 1]) := by decide +kernel
theorem bf136_154 : am_fetch (am_mth 136) 154 = some (.ireturn, 1, [0], [0, 1]) := by decide +kernel
theorem bk136_0 {w : am_Wd} {l0 : Nat} {l1 : Int32} : am_run 136 0 [some (.ref l0), some (.int l1)] [] w = (am_x 92 [.int l1, .int (nI 0), .int (nI 11)] w).bind fun r => bct r fun v w' => am_run 136 7 [some (.ref l0), some (.int l1)] (v.toList ++ []) w' := by
  refine (bu (ls'' := [some (.ref l0), some (.int l1)]) (st' := [.int l1]) bf136_0 bf136_1 rfl rfl).trans ?_
  refine (bu (ls'' := [some (.ref l0), some (.int l1)]) (st' := [.int (nI 0), .int l1]) bf136_1 bf136_2 rfl rfl).trans ?_
  refine (bu (ls'' := [some (.ref l0), some (.int l1)]) (st' := [.int (nI 11), .int (nI 0), .int l1]) bf136_2 bf136_4 rfl rfl).trans ?_
  exact bkS bf136_4 bf136_7 rfl (by decide +kernel) (Nat.le_of_ble_eq_true rfl) rfl (bhd rfl)
theorem bk136_7 {w : am_Wd} {l0 : Nat} {l1 : Int32} : am_run 136 7 [some (.ref l0), some (.int l1)] [] w = if l1 = (nI 0) then am_run 136 68 [some (.ref l0), none] [] w else if l1 = (nI 1) then am_run 136 73 [some (.ref l0), none] [] w else if l1 = (nI 2) then am_run 136 78 [some (.ref l0), none] [] w else if l1 = (nI 3) then am_run 136 87 [some (.ref l0), none] [] w else if l1 = (nI 4) then am_run 136 96 [some (.ref l0), none] [] w else if l1 = (nI 5) then am_run 136 108 [some (.ref l0), none] [] w else if l1 = (nI 6) then am_run 136 119 [some (.ref l0), none] [] w else if l1 = (nI 7) then am_run 136 130 [some (.ref l0), none] [] w else if l1 = (nI 8) then am_run 136 135 [some (.ref l0), none] [] w else if l1 = (nI 9) then am_run 136 140 [some (.ref l0), none] [] w else if l1 = (nI 10) then am_run 136 145 [some (.ref l0), none] [] w else am_run 136 150 [some (.ref l0), none] [] w := by
  refine (bu (ls'' := [some (.ref l0), none]) (st' := [.int l1]) bf136_7 bf136_8 rfl rfl).trans ?_
  refine bsw (fun q => ?_) (fun q0 => ?_)
  · exact bu (ls' := [some (.ref l0), none]) (ls'' := [some (.ref l0), none]) (st' := []) bf136_8 bf136_68 (by rw [q]; rfl) rfl
  refine bsw (fun q => ?_) (fun q1 => ?_)
  · exact bu (ls' := [some (.ref l0), none]) (ls'' := [some (.ref l0), none]) (st' := []) bf136_8 bf136_73 (by rw [q]; rfl) rfl
  refine bsw (fun q => ?_) (fun q2 => ?_)
  · exact bu (ls' := [some (.ref l0), none]) (ls'' := [some (.ref l0), none]) (st' := []) bf136_8 bf136_78 (by rw [q]; rfl) rfl
  refine bsw (fun q => ?_) (fun q3 => ?_)
  · exact bu (ls' := [some (.ref l0), none]) (ls'' := [some (.ref l0), none]) (st' := []) bf136_8 bf136_87 (by rw [q]; rfl) rfl
  refine bsw (fun q => ?_) (fun q4 => ?_)
  · exact bu (ls' := [some (.ref l0), none]) (ls'' := [some (.ref l0), none]) (st' := []) bf136_8 bf136_96 (by rw [q]; rfl) rfl
  refine bsw (fun q => ?_) (fun q5 => ?_)
  · exact bu (ls' := [some (.ref l0), none]) (ls'' := [some (.ref l0), none]) (st' := []) bf136_8 bf136_108 (by rw [q]; rfl) rfl
  refine bsw (fun q => ?_) (fun q6 => ?_)
  · exact bu (ls' := [some (.ref l0), none]) (ls'' := [some (.ref l0), none]) (st' := []) bf136_8 bf136_119 (by rw [q]; rfl) rfl
  refine bsw (fun q => ?_) (fun q7 => ?_)
  · exact bu (ls' := [some (.ref l0), none]) (ls'' := [some (.ref l0), none]) (st' := []) bf136_8 bf136_130 (by rw [q]; rfl) rfl
  refine bsw (fun q => ?_) (fun q8 => ?_)
  · exact bu (ls' := [some (.ref l0), none]) (ls'' := [some (.ref l0), none]) (st' := []) bf136_8 bf136_135 (by rw [q]; rfl) rfl
  refine bsw (fun q => ?_) (fun q9 => ?_)
  · exact bu (ls' := [some (.ref l0), none]) (ls'' := [some (.ref l0), none]) (st' := []) bf136_8 bf136_140 (by rw [q]; rfl) rfl
  refine bsw (fun q => ?_) (fun q10 => ?_)
  · exact bu (ls' := [some (.ref l0), none]) (ls'' := [some (.ref l0), none]) (st' := []) bf136_8 bf136_145 (by rw [q]; rfl) rfl
  exact bsd bf136_8 bf136_150 rfl rfl (bcon (by rfl) q0 (bcon (by rfl) q1 (bcon (by rfl) q2 (bcon (by rfl) q3 (bcon (by rfl) q4 (bcon (by rfl) q5 (bcon (by rfl) q6 (bcon (by rfl) q7 (bcon (by rfl) q8 (bcon (by rfl) q9 (bcon (by rfl) q10 (bnil)))))))))))) rfl
theorem bk136_68 {w : am_Wd} {l0 : Nat} : am_run 136 68 [some (.ref l0), none] [] w = (am_gf w l0 8 3).bind fun v => am_run 136 72 [none, none] (v :: []) w := by
  refine (bu (ls'' := [none, none]) (st' := [.ref l0]) bf136_68 bf136_69 rfl rfl).trans ?_
  exact bh bf136_69 bf136_72 rfl (fun _ _ => am_ge_rf w) rfl
theorem bk136_73 {w : am_Wd} {l0 : Nat} : am_run 136 73 [some (.ref l0), none] [] w = (am_kf w l0 8).bind fun _ => (am_x 33 [.ref l0] w).bind fun r => bct r fun v w' => am_run 136 77 [none, none] (v.toList ++ []) w' := by
  refine (bu (ls'' := [none, none]) (st' := [.ref l0]) bf136_73 bf136_74 rfl rfl).trans ?_
  exact bkV bf136_74 bf136_77 rfl (by decide +kernel) (Nat.le_of_ble_eq_true rfl) rfl (bhd rfl)
theorem bk136_78 {w : am_Wd} {l0 : Nat} : am_run 136 78 [some (.ref l0), none] [] w = (am_gf w l0 8 0).bind fun v => am_run 136 82 [none, none] (v :: []) w := by
  refine (bu (ls'' := [none, none]) (st' := [.ref l0]) bf136_78 bf136_79 rfl rfl).trans ?_
  exact bh bf136_79 bf136_82 rfl (fun _ _ => am_ge_rf w) rfl
theorem bk136_87 {w : am_Wd} {l0 : Nat} : am_run 136 87 [some (.ref l0), none] [] w = (am_gf w l0 8 0).bind fun v => am_run 136 91 [none, none] (v :: []) w := by
  refine (bu (ls'' := [none, none]) (st' := [.ref l0]) bf136_87 bf136_88 rfl rfl).trans ?_
  exact bh bf136_88 bf136_91 rfl (fun _ _ => am_ge_rf w) rfl
theorem bk136_96 {w : am_Wd} {l0 : Nat} : am_run 136 96 [some (.ref l0), none] [] w = (am_gf w l0 8 0).bind fun v => am_run 136 100 [some (.ref l0), none] (v :: []) w := by
  refine (bu (ls'' := [some (.ref l0), none]) (st' := [.ref l0]) bf136_96 bf136_97 rfl rfl).trans ?_
  exact bh bf136_97 bf136_100 rfl (fun _ _ => am_ge_rf w) rfl
theorem bk136_108 {w : am_Wd} {l0 : Nat} : am_run 136 108 [some (.ref l0), none] [] w = (am_gf w l0 8 0).bind fun v => am_run 136 112 [none, none] (v :: []) w := by
  refine (bu (ls'' := [none, none]) (st' := [.ref l0]) bf136_108 bf136_109 rfl rfl).trans ?_
  exact bh bf136_109 bf136_112 rfl (fun _ _ => am_ge_rf w) rfl
theorem bk136_119 {w : am_Wd} {l0 : Nat} : am_run 136 119 [some (.ref l0), none] [] w = (am_gf w l0 8 0).bind fun v => am_run 136 123 [none, none] (v :: []) w := by
  refine (bu (ls'' := [none, none]) (st' := [.ref l0]) bf136_119 bf136_120 rfl rfl).trans ?_
  exact bh bf136_120 bf136_123 rfl (fun _ _ => am_ge_rf w) rfl
theorem bk136_130 {w : am_Wd} {l0 : Nat} : am_run 136 130 [some (.ref l0), none] [] w = (am_gf w l0 8 2).bind fun v => am_run 136 134 [none, none] (v :: []) w := by
  refine (bu (ls'' := [none, none]) (st' := [.ref l0]) bf136_130 bf136_131 rfl rfl).trans ?_
  exact bh bf136_131 bf136_134 rfl (fun _ _ => am_ge_rf w) rfl
theorem bk136_135 {w : am_Wd} {l0 : Nat} : am_run 136 135 [some (.ref l0), none] [] w = (am_gf w l0 8 5).bind fun v => am_run 136 139 [none, none] (v :: []) w := by
  refine (bu (ls'' := [none, none]) (st' := [.ref l0]) bf136_135 bf136_136 rfl rfl).trans ?_
  exact bh bf136_136 bf136_139 rfl (fun _ _ => am_ge_rf w) rfl
theorem bk136_140 {w : am_Wd} {l0 : Nat} : am_run 136 140 [some (.ref l0), none] [] w = (am_gf w l0 8 6).bind fun v => am_run 136 144 [none, none] (v :: []) w := by
  refine (bu (ls'' := [none, none]) (st' := [.ref l0]) bf136_140 bf136_141 rfl rfl).trans ?_
  exact bh bf136_141 bf136_144 rfl (fun _ _ => am_ge_rf w) rfl
theorem bk136_145 {w : am_Wd} {l0 : Nat} : am_run 136 145 [some (.ref l0), none] [] w = (am_gf w l0 8 7).bind fun v => am_run 136 149 [none, none] (v :: []) w := by
  refine (bu (ls'' := [none, none]) (st' := [.ref l0]) bf136_145 bf136_146 rfl rfl).trans ?_
  exact bh bf136_146 bf136_149 rfl (fun _ _ => am_ge_rf w) rfl
theorem bk136_150 {w : am_Wd} {l0 : Nat} : am_run 136 150 [some (.ref l0), none] [] w = (am_gf w l0 8 8).bind fun v => am_run 136 154 [none, none] (v :: []) w := by
  refine (bu (ls'' := [none, none]) (st' := [.ref l0]) bf136_150 bf136_151 rfl rfl).trans ?_
  exact bh bf136_151 bf136_154 rfl (fun _ _ => am_ge_rf w) rfl
theorem bk136_72 {w : am_Wd} {s0 : Int32} : am_run 136 72 [none, none] [.int s0] w = some (.inl (some (.int s0)), w) := by
  exact am_e2 bf136_72 rfl (am_ge_rf w)
theorem bk136_77 {w : am_Wd} {s0 : Int32} : am_run 136 77 [none, none] [.int s0] w = some (.inl (some (.int s0)), w) := by
  exact am_e2 bf136_77 rfl (am_ge_rf w)
theorem bk136_82 {w : am_Wd} {s0 : Nat} : am_run 136 82 [none, none] [.ref s0] w = (am_kf w s0 5).bind fun _ => (am_x 10 [.ref s0, .int (nI 1)] w).bind fun r => bct r fun v w' => am_run 136 86 [none, none] (v.toList ++ []) w' := by
  refine (bu (ls'' := [none, none]) (st' := [.int (nI 1), .ref s0]) bf136_82 bf136_83 rfl rfl).trans ?_
  exact bkV bf136_83 bf136_86 rfl (by decide +kernel) (Nat.le_of_ble_eq_true rfl) rfl (bhd rfl)
theorem bk136_91 {w : am_Wd} {s0 : Nat} : am_run 136 91 [none, none] [.ref s0] w = (am_kf w s0 5).bind fun _ => (am_x 10 [.ref s0, .int (nI 2)] w).bind fun r => bct r fun v w' => am_run 136 95 [none, none] (v.toList ++ []) w' := by
  refine (bu (ls'' := [none, none]) (st' := [.int (nI 2), .ref s0]) bf136_91 bf136_92 rfl rfl).trans ?_
  exact bkV bf136_92 bf136_95 rfl (by decide +kernel) (Nat.le_of_ble_eq_true rfl) rfl (bhd rfl)
theorem bk136_100 {w : am_Wd} {l0 : Nat} {s0 : Nat} : am_run 136 100 [some (.ref l0), none] [.ref s0] w = (am_kf w l0 8).bind fun _ => (am_x 33 [.ref l0] w).bind fun r => bct r fun v w' => am_run 136 104 [none, none] (v.toList ++ [.ref s0]) w' := by
  refine (bu (ls'' := [none, none]) (st' := [.ref l0, .ref s0]) bf136_100 bf136_101 rfl rfl).trans ?_
  exact bkV bf136_101 bf136_104 rfl (by decide +kernel) (Nat.le_of_ble_eq_true rfl) rfl (bhd rfl)
theorem bk136_112 {w : am_Wd} {s0 : Nat} : am_run 136 112 [none, none] [.ref s0] w = (am_gf w s0 5 2).bind fun v => am_run 136 115 [none, none] (v :: []) w := by
  exact bh bf136_112 bf136_115 rfl (fun _ _ => am_ge_rf w) rfl
theorem bk136_123 {w : am_Wd} {s0 : Nat} : am_run 136 123 [none, none] [.ref s0] w = (am_gf w s0 5 3).bind fun v => am_run 136 126 [none, none] (v :: []) w := by
  exact bh bf136_123 bf136_126 rfl (fun _ _ => am_ge_rf w) rfl
theorem bk136_134 {w : am_Wd} {s0 : Int32} : am_run 136 134 [none, none] [.int s0] w = some (.inl (some (.int s0)), w) := by
  exact am_e2 bf136_134 rfl (am_ge_rf w)
theorem bk136_139 {w : am_Wd} {s0 : Int32} : am_run 136 139 [none, none] [.int s0] w = some (.inl (some (.int s0)), w) := by
  exact am_e2 bf136_139 rfl (am_ge_rf w)
theorem bk136_144 {w : am_Wd} {s0 : Int32} : am_run 136 144 [none, none] [.int s0] w = some (.inl (some (.int s0)), w) := by
  exact am_e2 bf136_144 rfl (am_ge_rf w)
theorem bk136_149 {w : am_Wd} {s0 : Int32} : am_run 136 149 [none, none] [.int s0] w = some (.inl (some (.int s0)), w) := by
  exact am_e2 bf136_149 rfl (am_ge_rf w)
theorem bk136_154 {w : am_Wd} {s0 : Int32} : am_run 136 154 [none, none] [.int s0] w = some (.inl (some (.int s0)), w) := by
  exact am_e2 bf136_154 rfl (am_ge_rf w)
theorem bk136_86 {w : am_Wd} {s0 : Int32} : am_run 136 86 [none, none] [.int s0] w = some (.inl (some (.int s0)), w) := by
  exact am_e2 bf136_86 rfl (am_ge_rf w)
theorem bk136_95 {w : am_Wd} {s0 : Int32} : am_run 136 95 [none, none] [.int s0] w = some (.inl (some (.int s0)), w) := by
  exact am_e2 bf136_95 rfl (am_ge_rf w)
theorem bk136_104 {w : am_Wd} {s0 : Int32} {s1 : Nat} : am_run 136 104 [none, none] [.int s0, .ref s1] w = (am_kf w s1 5).bind fun _ => (am_x 77 [.ref s1, .int s0] w).bind fun r => bct r fun v w' => am_run 136 107 [none, none] (v.toList ++ []) w' := by
  exact bkV bf136_104 bf136_107 rfl (by decide +kernel) (Nat.le_of_ble_eq_true rfl) rfl (bhd rfl)
theorem bk136_115 {w : am_Wd} {s0 : Int64} : am_run 136 115 [none, none] [.long s0] w = (am_x 50 [.long s0] w).bind fun r => bct r fun v w' => am_run 136 118 [none, none] (v.toList ++ []) w' := by
  exact bkS bf136_115 bf136_118 rfl (by decide +kernel) (Nat.le_of_ble_eq_true rfl) rfl (bhd rfl)
theorem bk136_126 {w : am_Wd} {s0 : Int64} : am_run 136 126 [none, none] [.long s0] w = (am_x 50 [.long s0] w).bind fun r => bct r fun v w' => am_run 136 129 [none, none] (v.toList ++ []) w' := by
  exact bkS bf136_126 bf136_129 rfl (by decide +kernel) (Nat.le_of_ble_eq_true rfl) rfl (bhd rfl)
theorem bk136_107 {w : am_Wd} {s0 : Int32} : am_run 136 107 [none, none] [.int s0] w = some (.inl (some (.int s0)), w) := by
  exact am_e2 bf136_107 rfl (am_ge_rf w)
theorem bk136_118 {w : am_Wd} {s0 : Int32} : am_run 136 118 [none, none] [.int s0] w = some (.inl (some (.int s0)), w) := by
  exact am_e2 bf136_118 rfl (am_ge_rf w)
theorem bk136_129 {w : am_Wd} {s0 : Int32} : am_run 136 129 [none, none] [.int s0] w = some (.inl (some (.int s0)), w) := by
  exact am_e2 bf136_129 rfl (am_ge_rf w)
theorem bf137_0 : am_fetch (am_mth 137) 0 = some (.aload_n 0, 1, [], [4]) := by decide +kernel
theorem bf137_1 : am_fetch (am_mth 137) 1 = some (.iload_n 1, 1, [], [0, 4]) := by decide +kernel
theorem bf137_2 : am_fetch (am_mth 137) 2 = some (.invokevirtual 89, 3, [0, 31, 1, 8, 343, 345, 1, 17], [0, 1, 4]) := by decide +kernel
theorem bf137_5 : am_fetch (am_mth 137) 5 = some (.astore 4, 2, [], [0, 1, 4]) := by decide +kernel
theorem bf137_7 : am_fetch (am_mth 137) 7 = some (.iload_n 2, 1, [], [0, 1]) := by decide +kernel
theorem bf137_8 : am_fetch (am_mth 137) 8 = some (.invokestatic 26, 3, [0, 29, 1, 200, 201, 17], [0, 1]) := by decide +kernel
theorem bf137_11 : am_fetch (am_mth 137) 11 = some (.iload_n 3, 1, [], [0, 1]) := by decide +kernel
theorem bf137_12 : am_fetch (am_mth 137) 12 = some (.invokestatic 30, 3, [0, 30, 1, 469, 470, 17], [0, 1]) := by decide +kernel
theorem bf137_15 : am_fetch (am_mth 137) 15 = some (.aload 4, 2, [], [0, 1]) := by decide +kernel
theorem bf137_17 : am_fetch (am_mth 137) 17 = some (.getfield 179, 3, [1, 6, 1, 303], [0, 1, 4]) := by decide +kernel
theorem bf137_20 : am_fetch (am_mth 137) 20 = some (.iload_n 2, 1, [], [0, 1, 4]) := by decide +kernel
theorem bf137_21 : am_fetch (am_mth 137) 21 = some (.iload_n 3, 1, [], [0, 1, 2, 4]) := by decide +kernel
theorem bf137_22 : am_fetch (am_mth 137) 22 = some (.invokevirtual 246, 3, [0, 81, 2, 7, 550, 357, 358, 29], [0, 1, 2, 3, 4]) := by decide +kernel
theorem bf137_25 : am_fetch (am_mth 137) 25 = some (.ireturn, 1, [0], [0, 1, 2, 3, 4]) := by decide +kernel
theorem bk137_0 {w : am_Wd} {l0 : Nat} {l1 : Int32} {l2 : Int32} {l3 : Int32} : am_run 137 0 [some (.ref l0), some (.int l1), some (.int l2), some (.int l3), none] [] w = (am_kf w l0 8).bind fun _ => (am_x 31 [.ref l0, .int l1] w).bind fun r => bct r fun v w' => am_run 137 5 [none, none, some (.int l2), some (.int l3), none] (v.toList ++ []) w' := by
  refine (bu (ls'' := [none, some (.int l1), some (.int l2), some (.int l3), none]) (st' := [.ref l0]) bf137_0 bf137_1 rfl rfl).trans ?_
  refine (bu (ls'' := [none, none, some (.int l2), some (.int l3), none]) (st' := [.int l1, .ref l0]) bf137_1 bf137_2 rfl rfl).trans ?_
  exact bkV bf137_2 bf137_5 rfl (by decide +kernel) (Nat.le_of_ble_eq_true rfl) rfl (bhd rfl)
theorem bk137_5 {w : am_Wd} {l2 : Int32} {l3 : Int32} {s0 : Nat} : am_run 137 5 [none, none, some (.int l2), some (.int l3), none] [.ref s0] w = (am_x 29 [.int l2] w).bind fun r => bct r fun v w' => am_run 137 11 [none, none, some (.int l2), some (.int l3), some (.ref s0)] (v.toList ++ []) w' := by
  refine (bu (ls'' := [none, none, some (.int l2), some (.int l3), some (.ref s0)]) (st' := []) bf137_5 bf137_7 rfl rfl).trans ?_
  refine (bu (ls'' := [none, none, some (.int l2), some (.int l3), some (.ref s0)]) (st' := [.int l2]) bf137_7 bf137_8 rfl rfl).trans ?_
  exact bkS bf137_8 bf137_11 rfl (by decide +kernel) (Nat.le_of_ble_eq_true rfl) rfl (bhd rfl)
theorem bk137_11 {w : am_Wd} {l2 : Int32} {l3 : Int32} {l4 : Nat} : am_run 137 11 [none, none, some (.int l2), some (.int l3), some (.ref l4)] [] w = (am_x 30 [.int l3] w).bind fun r => bct r fun v w' => am_run 137 15 [none, none, some (.int l2), some (.int l3), some (.ref l4)] (v.toList ++ []) w' := by
  refine (bu (ls'' := [none, none, some (.int l2), some (.int l3), some (.ref l4)]) (st' := [.int l3]) bf137_11 bf137_12 rfl rfl).trans ?_
  exact bkS bf137_12 bf137_15 rfl (by decide +kernel) (Nat.le_of_ble_eq_true rfl) rfl (bhd rfl)
theorem bk137_15 {w : am_Wd} {l2 : Int32} {l3 : Int32} {l4 : Nat} : am_run 137 15 [none, none, some (.int l2), some (.int l3), some (.ref l4)] [] w = (am_gf w l4 6 1).bind fun v => am_run 137 20 [none, none, some (.int l2), some (.int l3), none] (v :: []) w := by
  refine (bu (ls'' := [none, none, some (.int l2), some (.int l3), none]) (st' := [.ref l4]) bf137_15 bf137_17 rfl rfl).trans ?_
  exact bh bf137_17 bf137_20 rfl (fun _ _ => am_ge_rf w) rfl
theorem bk137_20 {w : am_Wd} {l2 : Int32} {l3 : Int32} {s0 : Nat} : am_run 137 20 [none, none, some (.int l2), some (.int l3), none] [.ref s0] w = (am_kf w s0 7).bind fun _ => (am_x 81 [.ref s0, .int l2, .int l3] w).bind fun r => bct r fun v w' => am_run 137 25 [none, none, none, none, none] (v.toList ++ []) w' := by
  refine (bu (ls'' := [none, none, none, some (.int l3), none]) (st' := [.int l2, .ref s0]) bf137_20 bf137_21 rfl rfl).trans ?_
  refine (bu (ls'' := [none, none, none, none, none]) (st' := [.int l3, .int l2, .ref s0]) bf137_21 bf137_22 rfl rfl).trans ?_
  exact bkV bf137_22 bf137_25 rfl (by decide +kernel) (Nat.le_of_ble_eq_true rfl) rfl (bhd rfl)
theorem bk137_25 {w : am_Wd} {s0 : Int32} : am_run 137 25 [none, none, none, none, none] [.int s0] w = some (.inl (some (.int s0)), w) := by
  exact am_e2 bf137_25 rfl (am_ge_rf w)
theorem bf138_0 : am_fetch (am_mth 138) 0 = some (.aload_n 0, 1, [], [3]) := by decide +kernel
theorem bf138_1 : am_fetch (am_mth 138) 1 = some (.iload_n 1, 1, [], [0, 3]) := by decide +kernel
theorem bf138_2 : am_fetch (am_mth 138) 2 = some (.invokevirtual 89, 3, [0, 31, 1, 8, 343, 345, 1, 17], [0, 1, 3]) := by decide +kernel
theorem bf138_5 : am_fetch (am_mth 138) 5 = some (.astore_n 3, 1, [], [0, 1, 3]) := by decide +kernel
theorem bf138_6 : am_fetch (am_mth 138) 6 = some (.iload_n 2, 1, [], [0, 1]) := by decide +kernel
theorem bf138_7 : am_fetch (am_mth 138) 7 = some (.ifCond .lt 10, 3, [], [0, 1]) := by decide +kernel
theorem bf138_10 : am_fetch (am_mth 138) 10 = some (.iload_n 2, 1, [], [0, 1]) := by decide +kernel
theorem bf138_11 : am_fetch (am_mth 138) 11 = some (.sipush 144, 3, [], [0, 1]) := by decide +kernel
theorem bf138_14 : am_fetch (am_mth 138) 14 = some (.if_icmp .lt 13, 3, [], [0, 1]) := by decide +kernel
theorem bf138_17 : am_fetch (am_mth 138) 17 = some (.new 223, 3, [1, 0, 203, 25, 702, 249, 227], [0, 1, 2, 3]) := by decide +kernel
theorem bf138_20 : am_fetch (am_mth 138) 20 = some (.dup, 1, [], [0, 1, 2, 3]) := by decide +kernel
theorem bf138_21 : am_fetch (am_mth 138) 21 = some (.ldc 249, 2, [1, 13, 702], [0, 1, 2, 3]) := by decide +kernel
theorem bf138_23 : am_fetch (am_mth 138) 23 = some (.invokespecial 227, 3, [], [0, 1, 2, 3]) := by decide +kernel
theorem bf138_26 : am_fetch (am_mth 138) 26 = some (.athrow, 1, [], [0, 1, 2, 3]) := by decide +kernel
theorem bf138_27 : am_fetch (am_mth 138) 27 = some (.aload_n 3, 1, [], [0, 1]) := by decide +kernel
theorem bf138_28 : am_fetch (am_mth 138) 28 = some (.getfield 133, 3, [1, 6, 2, 305], [0, 1, 3]) := by decide +kernel
theorem bf138_31 : am_fetch (am_mth 138) 31 = some (.iload_n 2, 1, [], [0, 1, 3]) := by decide +kernel
theorem bf138_32 : am_fetch (am_mth 138) 32 = some (.invokevirtual 251, 3, [0, 73, 1, 4, 703, 704, 705, 30], [0, 1, 2, 3]) := by decide +kernel
theorem bf138_35 : am_fetch (am_mth 138) 35 = some (.ireturn, 1, [1], [0, 1, 2, 3]) := by decide +kernel
theorem bk138_0 {w : am_Wd} {l0 : Nat} {l1 : Int32} {l2 : Int32} : am_run 138 0 [some (.ref l0), some (.int l1), some (.int l2), none] [] w = (am_kf w l0 8).bind fun _ => (am_x 31 [.ref l0, .int l1] w).bind fun r => bct r fun v w' => am_run 138 5 [none, none, some (.int l2), none] (v.toList ++ []) w' := by
  refine (bu (ls'' := [none, some (.int l1), some (.int l2), none]) (st' := [.ref l0]) bf138_0 bf138_1 rfl rfl).trans ?_
  refine (bu (ls'' := [none, none, some (.int l2), none]) (st' := [.int l1, .ref l0]) bf138_1 bf138_2 rfl rfl).trans ?_
  exact bkV bf138_2 bf138_5 rfl (by decide +kernel) (Nat.le_of_ble_eq_true rfl) rfl (bhd rfl)
theorem bk138_5 {w : am_Wd} {l2 : Int32} {s0 : Nat} : am_run 138 5 [none, none, some (.int l2), none] [.ref s0] w = if l2 < nI 0 then am_run 138 17 [none, none, none, none] [] w else am_run 138 10 [none, none, some (.int l2), some (.ref s0)] [] w := by
  refine (bu (ls'' := [none, none, some (.int l2), some (.ref s0)]) (st' := []) bf138_5 bf138_6 rfl rfl).trans ?_
  refine (bu (ls'' := [none, none, some (.int l2), some (.ref s0)]) (st' := [.int l2]) bf138_6 bf138_7 rfl rfl).trans ?_
  exact bifc bf138_7 rfl bf138_17 bf138_10 rfl rfl rfl
theorem bk138_17 {w : am_Wd}  : am_run 138 17 [none, none, none, none] [] w = some (.inr (am_xn 0), am_jk w 1 6) := by
  exact am_e2 bf138_17 rfl (am_ge_jk _ _ _)
theorem bk138_10 {w : am_Wd} {l2 : Int32} {l3 : Nat} : am_run 138 10 [none, none, some (.int l2), some (.ref l3)] [] w = if l2 < (nI 144) then am_run 138 27 [none, none, some (.int l2), some (.ref l3)] [] w else am_run 138 17 [none, none, none, none] [] w := by
  refine (bu (ls'' := [none, none, some (.int l2), some (.ref l3)]) (st' := [.int l2]) bf138_10 bf138_11 rfl rfl).trans ?_
  refine (bu (ls'' := [none, none, some (.int l2), some (.ref l3)]) (st' := [.int (nI 144), .int l2]) bf138_11 bf138_14 rfl rfl).trans ?_
  exact bic bf138_14 rfl bf138_27 bf138_17 rfl rfl rfl
theorem bk138_27 {w : am_Wd} {l2 : Int32} {l3 : Nat} : am_run 138 27 [none, none, some (.int l2), some (.ref l3)] [] w = (am_gf w l3 6 2).bind fun v => am_run 138 31 [none, none, some (.int l2), none] (v :: []) w := by
  refine (bu (ls'' := [none, none, some (.int l2), none]) (st' := [.ref l3]) bf138_27 bf138_28 rfl rfl).trans ?_
  exact bh bf138_28 bf138_31 rfl (fun _ _ => am_ge_rf w) rfl
theorem bk138_31 {w : am_Wd} {l2 : Int32} {s0 : Nat} : am_run 138 31 [none, none, some (.int l2), none] [.ref s0] w = (am_kf w s0 4).bind fun _ => (am_x 73 [.ref s0, .int l2] w).bind fun r => bct r fun v w' => am_run 138 35 [none, none, none, none] (v.toList ++ []) w' := by
  refine (bu (ls'' := [none, none, none, none]) (st' := [.int l2, .ref s0]) bf138_31 bf138_32 rfl rfl).trans ?_
  exact bkV bf138_32 bf138_35 rfl (by decide +kernel) (Nat.le_of_ble_eq_true rfl) rfl (bhd rfl)
theorem bk138_35 {w : am_Wd} {s0 : Int32} (hb : am_ok (am_rt 1) (.int s0) = true) : am_run 138 35 [none, none, none, none] [.int s0] w = some (.inl (some (.int s0)), w) := by
  exact am_e2 bf138_35 (by unfold am_stp; exact if_pos ⟨by decide, hb⟩) (am_ge_rf w)
theorem bf139_0 : am_fetch (am_mth 139) 0 = some (.aload_n 0, 1, [], [3]) := by decide +kernel
theorem bf139_1 : am_fetch (am_mth 139) 1 = some (.iload_n 1, 1, [], [0, 3]) := by decide +kernel
theorem bf139_2 : am_fetch (am_mth 139) 2 = some (.invokevirtual 89, 3, [0, 31, 1, 8, 343, 345, 1, 17], [0, 1, 3]) := by decide +kernel
theorem bf139_5 : am_fetch (am_mth 139) 5 = some (.astore_n 3, 1, [], [0, 1, 3]) := by decide +kernel
theorem bf139_6 : am_fetch (am_mth 139) 6 = some (.iload_n 2, 1, [], [0, 1]) := by decide +kernel
theorem bf139_7 : am_fetch (am_mth 139) 7 = some (.iconst 0, 1, [], [0, 1]) := by decide +kernel
theorem bf139_8 : am_fetch (am_mth 139) 8 = some (.iconst 3, 1, [], [0, 1]) := by decide +kernel
theorem bf139_9 : am_fetch (am_mth 139) 9 = some (.invokestatic 43, 3, [0, 92, 3, 95, 96, 17], [0, 1]) := by decide +kernel
theorem bf139_12 : am_fetch (am_mth 139) 12 = some (.aload_n 3, 1, [], [0, 1]) := by decide +kernel
theorem bf139_13 : am_fetch (am_mth 139) 13 = some (.getfield 133, 3, [1, 6, 2, 305], [0, 1, 3]) := by decide +kernel
theorem bf139_16 : am_fetch (am_mth 139) 16 = some (.getfield 255, 3, [1, 4, 0, 288], [0, 1, 3]) := by decide +kernel
theorem bf139_19 : am_fetch (am_mth 139) 19 = some (.iload_n 2, 1, [], [0, 1, 3]) := by decide +kernel
theorem bf139_20 : am_fetch (am_mth 139) 20 = some (.laload, 1, [], [0, 1, 2, 3]) := by decide +kernel
theorem bf139_21 : am_fetch (am_mth 139) 21 = some (.lreturn, 1, [], [0, 1, 2, 3]) := by decide +kernel
theorem bk139_0 {w : am_Wd} {l0 : Nat} {l1 : Int32} {l2 : Int32} : am_run 139 0 [some (.ref l0), some (.int l1), some (.int l2), none] [] w = (am_kf w l0 8).bind fun _ => (am_x 31 [.ref l0, .int l1] w).bind fun r => bct r fun v w' => am_run 139 5 [none, none, some (.int l2), none] (v.toList ++ []) w' := by
  refine (bu (ls'' := [none, some (.int l1), some (.int l2), none]) (st' := [.ref l0]) bf139_0 bf139_1 rfl rfl).trans ?_
  refine (bu (ls'' := [none, none, some (.int l2), none]) (st' := [.int l1, .ref l0]) bf139_1 bf139_2 rfl rfl).trans ?_
  exact bkV bf139_2 bf139_5 rfl (by decide +kernel) (Nat.le_of_ble_eq_true rfl) rfl (bhd rfl)
theorem bk139_5 {w : am_Wd} {l2 : Int32} {s0 : Nat} : am_run 139 5 [none, none, some (.int l2), none] [.ref s0] w = (am_x 92 [.int l2, .int (nI 0), .int (nI 3)] w).bind fun r => bct r fun v w' => am_run 139 12 [none, none, some (.int l2), some (.ref s0)] (v.toList ++ []) w' := by
  refine (bu (ls'' := [none, none, some (.int l2), some (.ref s0)]) (st' := []) bf139_5 bf139_6 rfl rfl).trans ?_
  refine (bu (ls'' := [none, none, some (.int l2), some (.ref s0)]) (st' := [.int l2]) bf139_6 bf139_7 rfl rfl).trans ?_
  refine (bu (ls'' := [none, none, some (.int l2), some (.ref s0)]) (st' := [.int (nI 0), .int l2]) bf139_7 bf139_8 rfl rfl).trans ?_
  refine (bu (ls'' := [none, none, some (.int l2), some (.ref s0)]) (st' := [.int (nI 3), .int (nI 0), .int l2]) bf139_8 bf139_9 rfl rfl).trans ?_
  exact bkS bf139_9 bf139_12 rfl (by decide +kernel) (Nat.le_of_ble_eq_true rfl) rfl (bhd rfl)
theorem bk139_12 {w : am_Wd} {l2 : Int32} {l3 : Nat} : am_run 139 12 [none, none, some (.int l2), some (.ref l3)] [] w = (am_gf w l3 6 2).bind fun v => am_run 139 16 [none, none, some (.int l2), none] (v :: []) w := by
  refine (bu (ls'' := [none, none, some (.int l2), none]) (st' := [.ref l3]) bf139_12 bf139_13 rfl rfl).trans ?_
  exact bh bf139_13 bf139_16 rfl (fun _ _ => am_ge_rf w) rfl
theorem bk139_16 {w : am_Wd} {l2 : Int32} {s0 : Nat} : am_run 139 16 [none, none, some (.int l2), none] [.ref s0] w = (am_gf w s0 4 0).bind fun v => am_run 139 19 [none, none, some (.int l2), none] (v :: []) w := by
  exact bh bf139_16 bf139_19 rfl (fun _ _ => am_ge_rf w) rfl
theorem bk139_19 {w : am_Wd} {l2 : Int32} {s0 : Nat} : am_run 139 19 [none, none, some (.int l2), none] [.ref s0] w = (am_rl w s0 l2).bind fun v => am_run 139 21 [none, none, none, none] (.long v :: []) w := by
  refine (bu (ls'' := [none, none, none, none]) (st' := [.int l2, .ref s0]) bf139_19 bf139_20 rfl rfl).trans ?_
  exact bh bf139_20 bf139_21 rfl (fun _ _ => am_ge_rf w) rfl
theorem bk139_21 {w : am_Wd} {s0 : Int64} : am_run 139 21 [none, none, none, none] [.long s0] w = some (.inl (some (.long s0)), w) := by
  exact am_e2 bf139_21 rfl (am_ge_rf w)
theorem bf140_0 : am_fetch (am_mth 140) 0 = some (.aload_n 0, 1, [], [4]) := by decide +kernel
theorem bf140_1 : am_fetch (am_mth 140) 1 = some (.iload_n 1, 1, [], [0, 4]) := by decide +kernel
theorem bf140_2 : am_fetch (am_mth 140) 2 = some (.invokevirtual 89, 3, [0, 31, 1, 8, 343, 345, 1, 17], [0, 1, 4]) := by decide +kernel
theorem bf140_5 : am_fetch (am_mth 140) 5 = some (.astore 4, 2, [], [0, 1, 4]) := by decide +kernel
theorem bf140_7 : am_fetch (am_mth 140) 7 = some (.iload_n 2, 1, [], [0, 1]) := by decide +kernel
theorem bf140_8 : am_fetch (am_mth 140) 8 = some (.invokestatic 26, 3, [0, 29, 1, 200, 201, 17], [0, 1]) := by decide +kernel
theorem bf140_11 : am_fetch (am_mth 140) 11 = some (.iload_n 3, 1, [], [0, 1]) := by decide +kernel
theorem bf140_12 : am_fetch (am_mth 140) 12 = some (.invokestatic 26, 3, [0, 29, 1, 200, 201, 17], [0, 1]) := by decide +kernel
theorem bf140_15 : am_fetch (am_mth 140) 15 = some (.aload 4, 2, [], [0, 1]) := by decide +kernel
theorem bf140_17 : am_fetch (am_mth 140) 17 = some (.getfield 179, 3, [1, 6, 1, 303], [0, 1, 4]) := by decide +kernel
theorem bf140_20 : am_fetch (am_mth 140) 20 = some (.iload_n 2, 1, [], [0, 1, 4]) := by decide +kernel
theorem bf140_21 : am_fetch (am_mth 140) 21 = some (.iload_n 3, 1, [], [0, 1, 2, 4]) := by decide +kernel
theorem bf140_22 : am_fetch (am_mth 140) 22 = some (.invokevirtual 259, 3, [0, 87, 2, 7, 408, 409, 410, 29], [0, 1, 2, 3, 4]) := by decide +kernel
theorem bf140_25 : am_fetch (am_mth 140) 25 = some (.ireturn, 1, [0], [0, 1, 2, 3, 4]) := by decide +kernel
theorem bk140_0 {w : am_Wd} {l0 : Nat} {l1 : Int32} {l2 : Int32} {l3 : Int32} : am_run 140 0 [some (.ref l0), some (.int l1), some (.int l2), some (.int l3), none] [] w = (am_kf w l0 8).bind fun _ => (am_x 31 [.ref l0, .int l1] w).bind fun r => bct r fun v w' => am_run 140 5 [none, none, some (.int l2), some (.int l3), none] (v.toList ++ []) w' := by
  refine (bu (ls'' := [none, some (.int l1), some (.int l2), some (.int l3), none]) (st' := [.ref l0]) bf140_0 bf140_1 rfl rfl).trans ?_
  refine (bu (ls'' := [none, none, some (.int l2), some (.int l3), none]) (st' := [.int l1, .ref l0]) bf140_1 bf140_2 rfl rfl).trans ?_
  exact bkV bf140_2 bf140_5 rfl (by decide +kernel) (Nat.le_of_ble_eq_true rfl) rfl (bhd rfl)
theorem bk140_5 {w : am_Wd} {l2 : Int32} {l3 : Int32} {s0 : Nat} : am_run 140 5 [none, none, some (.int l2), some (.int l3), none] [.ref s0] w = (am_x 29 [.int l2] w).bind fun r => bct r fun v w' => am_run 140 11 [none, none, some (.int l2), some (.int l3), some (.ref s0)] (v.toList ++ []) w' := by
  refine (bu (ls'' := [none, none, some (.int l2), some (.int l3), some (.ref s0)]) (st' := []) bf140_5 bf140_7 rfl rfl).trans ?_
  refine (bu (ls'' := [none, none, some (.int l2), some (.int l3), some (.ref s0)]) (st' := [.int l2]) bf140_7 bf140_8 rfl rfl).trans ?_
  exact bkS bf140_8 bf140_11 rfl (by decide +kernel) (Nat.le_of_ble_eq_true rfl) rfl (bhd rfl)
theorem bk140_11 {w : am_Wd} {l2 : Int32} {l3 : Int32} {l4 : Nat} : am_run 140 11 [none, none, some (.int l2), some (.int l3), some (.ref l4)] [] w = (am_x 29 [.int l3] w).bind fun r => bct r fun v w' => am_run 140 15 [none, none, some (.int l2), some (.int l3), some (.ref l4)] (v.toList ++ []) w' := by
  refine (bu (ls'' := [none, none, some (.int l2), some (.int l3), some (.ref l4)]) (st' := [.int l3]) bf140_11 bf140_12 rfl rfl).trans ?_
  exact bkS bf140_12 bf140_15 rfl (by decide +kernel) (Nat.le_of_ble_eq_true rfl) rfl (bhd rfl)
theorem bk140_15 {w : am_Wd} {l2 : Int32} {l3 : Int32} {l4 : Nat} : am_run 140 15 [none, none, some (.int l2), some (.int l3), some (.ref l4)] [] w = (am_gf w l4 6 1).bind fun v => am_run 140 20 [none, none, some (.int l2), some (.int l3), none] (v :: []) w := by
  refine (bu (ls'' := [none, none, some (.int l2), some (.int l3), none]) (st' := [.ref l4]) bf140_15 bf140_17 rfl rfl).trans ?_
  exact bh bf140_17 bf140_20 rfl (fun _ _ => am_ge_rf w) rfl
theorem bk140_20 {w : am_Wd} {l2 : Int32} {l3 : Int32} {s0 : Nat} : am_run 140 20 [none, none, some (.int l2), some (.int l3), none] [.ref s0] w = (am_kf w s0 7).bind fun _ => (am_x 87 [.ref s0, .int l2, .int l3] w).bind fun r => bct r fun v w' => am_run 140 25 [none, none, none, none, none] (v.toList ++ []) w' := by
  refine (bu (ls'' := [none, none, none, some (.int l3), none]) (st' := [.int l2, .ref s0]) bf140_20 bf140_21 rfl rfl).trans ?_
  refine (bu (ls'' := [none, none, none, none, none]) (st' := [.int l3, .int l2, .ref s0]) bf140_21 bf140_22 rfl rfl).trans ?_
  exact bkV bf140_22 bf140_25 rfl (by decide +kernel) (Nat.le_of_ble_eq_true rfl) rfl (bhd rfl)
theorem bk140_25 {w : am_Wd} {s0 : Int32} : am_run 140 25 [none, none, none, none, none] [.int s0] w = some (.inl (some (.int s0)), w) := by
  exact am_e2 bf140_25 rfl (am_ge_rf w)
theorem bf141_0 : am_fetch (am_mth 141) 0 = some (.aload_n 0, 1, [], []) := by decide +kernel
theorem bf141_1 : am_fetch (am_mth 141) 1 = some (.getfield 10, 3, [0, 8, 0, 63], []) := by decide +kernel
theorem bf141_4 : am_fetch (am_mth 141) 4 = some (.getfield 217, 3, [1, 5, 2, 48], []) := by decide +kernel
theorem bf141_7 : am_fetch (am_mth 141) 7 = some (.aload_n 1, 1, [], []) := by decide +kernel
theorem bf141_8 : am_fetch (am_mth 141) 8 = some (.invokevirtual 103, 3, [0, 17, 0, 6, 596, 597, 598, 28], []) := by decide +kernel
theorem bf141_11 : am_fetch (am_mth 141) 11 = some (.invokestatic 361, 3, [0, 11, 2, 594, 361, 23], []) := by decide +kernel
theorem bf141_14 : am_fetch (am_mth 141) 14 = some (.ifCond .eq 25, 3, [], []) := by decide +kernel
theorem bf141_17 : am_fetch (am_mth 141) 17 = some (.aload_n 0, 1, [], []) := by decide +kernel
theorem bf141_18 : am_fetch (am_mth 141) 18 = some (.invokevirtual 365, 3, [0, 93, 0, 8, 608, 610, 12, 17], [0]) := by decide +kernel
theorem bf141_21 : am_fetch (am_mth 141) 21 = some (.iconst 3, 1, [], [0]) := by decide +kernel
theorem bf141_22 : am_fetch (am_mth 141) 22 = some (.irem, 1, [], [0]) := by decide +kernel
theorem bf141_23 : am_fetch (am_mth 141) 23 = some (.ifCond .ne 16, 3, [], [0]) := by decide +kernel
theorem bf141_26 : am_fetch (am_mth 141) 26 = some (.aload_n 1, 1, [], [0]) := by decide +kernel
theorem bf141_27 : am_fetch (am_mth 141) 27 = some (.dup, 1, [], [0, 1]) := by decide +kernel
theorem bf141_28 : am_fetch (am_mth 141) 28 = some (.getfield 368, 3, [1, 6, 8, 315], [0, 1]) := by decide +kernel
theorem bf141_31 : am_fetch (am_mth 141) 31 = some (.iconst 1, 1, [], [0, 1]) := by decide +kernel
theorem bf141_32 : am_fetch (am_mth 141) 32 = some (.iadd, 1, [], [0, 1]) := by decide +kernel
theorem bf141_33 : am_fetch (am_mth 141) 33 = some (.putfield 368, 3, [1, 6, 8, 315], [0, 1]) := by decide +kernel
theorem bf141_36 : am_fetch (am_mth 141) 36 = some (.goto 7, 3, [], [0, 1]) := by decide +kernel
theorem bf141_39 : am_fetch (am_mth 141) 39 = some (.aload_n 1, 1, [], [0]) := by decide +kernel
theorem bf141_40 : am_fetch (am_mth 141) 40 = some (.invokevirtual 371, 3, [0, 78, 0, 6, 613, 614, 615, 28], [0, 1]) := by decide +kernel
theorem bf141_43 : am_fetch (am_mth 141) 43 = some (.return_, 1, [], [0, 1]) := by decide +kernel
theorem bk141_0 {w : am_Wd} {l0 : Nat} {l1 : Nat} : am_run 141 0 [some (.ref l0), some (.ref l1)] [] w = (am_gf w l0 8 0).bind fun v => am_run 141 4 [some (.ref l0), some (.ref l1)] (v :: []) w := by
  refine (bu (ls'' := [some (.ref l0), some (.ref l1)]) (st' := [.ref l0]) bf141_0 bf141_1 rfl rfl).trans ?_
  exact bh bf141_1 bf141_4 rfl (fun _ _ => am_ge_rf w) rfl
theorem bk141_4 {w : am_Wd} {l0 : Nat} {l1 : Nat} {s0 : Nat} : am_run 141 4 [some (.ref l0), some (.ref l1)] [.ref s0] w = (am_gf w s0 5 2).bind fun v => am_run 141 7 [some (.ref l0), some (.ref l1)] (v :: []) w := by
  exact bh bf141_4 bf141_7 rfl (fun _ _ => am_ge_rf w) rfl
theorem bk141_7 {w : am_Wd} {l0 : Nat} {l1 : Nat} {s0 : Int64} : am_run 141 7 [some (.ref l0), some (.ref l1)] [.long s0] w = (am_kf w l1 6).bind fun _ => (am_x 17 [.ref l1] w).bind fun r => bct r fun v w' => am_run 141 11 [some (.ref l0), some (.ref l1)] (v.toList ++ [.long s0]) w' := by
  refine (bu (ls'' := [some (.ref l0), some (.ref l1)]) (st' := [.ref l1, .long s0]) bf141_7 bf141_8 rfl rfl).trans ?_
  exact bkV bf141_8 bf141_11 rfl (by decide +kernel) (Nat.le_of_ble_eq_true rfl) rfl (bhd rfl)
theorem bk141_11 {w : am_Wd} {l0 : Nat} {l1 : Nat} {s0 : Int32} {s1 : Int64} : am_run 141 11 [some (.ref l0), some (.ref l1)] [.int s0, .long s1] w = (am_x 11 [.long s1, .int s0] w).bind fun r => bct r fun v w' => am_run 141 14 [some (.ref l0), some (.ref l1)] (v.toList ++ []) w' := by
  exact bkS bf141_11 bf141_14 rfl (by decide +kernel) (Nat.le_of_ble_eq_true rfl) rfl (bhd rfl)
theorem bk141_14 {w : am_Wd} {l0 : Nat} {l1 : Nat} {s0 : Int32} : am_run 141 14 [some (.ref l0), some (.ref l1)] [.int s0] w = if s0 = nI 0 then am_run 141 39 [none, some (.ref l1)] [] w else am_run 141 17 [some (.ref l0), some (.ref l1)] [] w := by
  exact bifc bf141_14 rfl bf141_39 bf141_17 rfl rfl rfl
theorem bk141_39 {w : am_Wd} {l1 : Nat} : am_run 141 39 [none, some (.ref l1)] [] w = (am_kf w l1 6).bind fun _ => (am_x 78 [.ref l1] w).bind fun r => bct r fun v w' => am_run 141 43 [none, none] (v.toList ++ []) w' := by
  refine (bu (ls'' := [none, none]) (st' := [.ref l1]) bf141_39 bf141_40 rfl rfl).trans ?_
  exact bkV bf141_40 bf141_43 rfl (by decide +kernel) (Nat.le_of_ble_eq_true rfl) rfl (bhd rfl)
theorem bk141_17 {w : am_Wd} {l0 : Nat} {l1 : Nat} : am_run 141 17 [some (.ref l0), some (.ref l1)] [] w = (am_kf w l0 8).bind fun _ => (am_x 93 [.ref l0] w).bind fun r => bct r fun v w' => am_run 141 21 [none, some (.ref l1)] (v.toList ++ []) w' := by
  refine (bu (ls'' := [none, some (.ref l1)]) (st' := [.ref l0]) bf141_17 bf141_18 rfl rfl).trans ?_
  exact bkV bf141_18 bf141_21 rfl (by decide +kernel) (Nat.le_of_ble_eq_true rfl) rfl (bhd rfl)
theorem bk141_43 {w : am_Wd}  : am_run 141 43 [none, none] [] w = some (.inl none, w) := by
  exact am_e2 bf141_43 rfl (am_ge_rf w)
theorem bk141_21 {w : am_Wd} {l1 : Nat} {s0 : Int32} : am_run 141 21 [none, some (.ref l1)] [.int s0] w = if ¬ (bj_irem s0 (nI 3)) = nI 0 then am_run 141 39 [none, some (.ref l1)] [] w else am_run 141 26 [none, some (.ref l1)] [] w := by
  refine (bu (ls'' := [none, some (.ref l1)]) (st' := [.int (nI 3), .int s0]) bf141_21 bf141_22 rfl rfl).trans ?_
  refine (bu (ls'' := [none, some (.ref l1)]) (st' := [.int (bj_irem s0 (nI 3))]) bf141_22 bf141_23 rfl rfl).trans ?_
  exact bifc bf141_23 rfl bf141_39 bf141_26 rfl rfl rfl
theorem bk141_26 {w : am_Wd} {l1 : Nat} : am_run 141 26 [none, some (.ref l1)] [] w = (am_gf w l1 6 8).bind fun v => am_run 141 31 [none, none] (v :: [.ref l1]) w := by
  refine (bu (ls'' := [none, none]) (st' := [.ref l1]) bf141_26 bf141_27 rfl rfl).trans ?_
  refine (bu (ls'' := [none, none]) (st' := [.ref l1, .ref l1]) bf141_27 bf141_28 rfl rfl).trans ?_
  exact bh bf141_28 bf141_31 rfl (fun _ _ => am_ge_rf w) rfl
theorem bk141_31 {w : am_Wd} {s0 : Int32} {s1 : Nat} : am_run 141 31 [none, none] [.int s0, .ref s1] w = (am_pf w s1 6 8 (.int (s0 + (nI 1)))).bind fun w' => am_run 141 36 [none, none] [] w' := by
  refine (bu (ls'' := [none, none]) (st' := [.int (nI 1), .int s0, .ref s1]) bf141_31 bf141_32 rfl rfl).trans ?_
  refine (bu (ls'' := [none, none]) (st' := [.int (s0 + (nI 1)), .ref s1]) bf141_32 bf141_33 rfl rfl).trans ?_
  exact bh bf141_33 bf141_36 rfl (bge_pf) rfl
theorem bk141_36 {w : am_Wd}  : am_run 141 36 [none, none] [] w = am_run 141 43 [none, none] [] w := by
  refine (bu (ls'' := [none, none]) (st' := []) bf141_36 bf141_43 rfl rfl).trans ?_
  rfl
theorem bf157_0 : am_fetch (am_mth 157) 0 = some (.iload_n 1, 1, [], [2, 3, 4]) := by decide +kernel
theorem bf157_1 : am_fetch (am_mth 157) 1 = some (.istore_n 2, 1, [], [1, 2, 3, 4]) := by decide +kernel
theorem bf157_2 : am_fetch (am_mth 157) 2 = some (.iconst 0, 1, [], [1, 3, 4]) := by decide +kernel
theorem bf157_3 : am_fetch (am_mth 157) 3 = some (.istore_n 3, 1, [], [1, 3, 4]) := by decide +kernel
theorem bf157_4 : am_fetch (am_mth 157) 4 = some (.iload_n 3, 1, [], [1, 4]) := by decide +kernel
theorem bf157_5 : am_fetch (am_mth 157) 5 = some (.bipush 36, 2, [], [1, 4]) := by decide +kernel
theorem bf157_7 : am_fetch (am_mth 157) 7 = some (.if_icmp .ge 58, 3, [], [1, 4]) := by decide +kernel
theorem bf157_10 : am_fetch (am_mth 157) 10 = some (.iconst 1, 1, [], [1, 4]) := by decide +kernel
theorem bf157_11 : am_fetch (am_mth 157) 11 = some (.istore 4, 2, [], [1, 4]) := by decide +kernel
theorem bf157_13 : am_fetch (am_mth 157) 13 = some (.iload 4, 2, [], [1]) := by decide +kernel
theorem bf157_15 : am_fetch (am_mth 157) 15 = some (.iconst 2, 1, [], [1]) := by decide +kernel
theorem bf157_16 : am_fetch (am_mth 157) 16 = some (.if_icmp .gt 43, 3, [], [1]) := by decide +kernel
theorem bf157_19 : am_fetch (am_mth 157) 19 = some (.iload_n 3, 1, [], [1]) := by decide +kernel
theorem bf157_20 : am_fetch (am_mth 157) 20 = some (.iload 4, 2, [], [1]) := by decide +kernel
theorem bf157_22 : am_fetch (am_mth 157) 22 = some (.invokestatic 18, 3, [0, 13, 2, 173, 174, 23], [1]) := by decide +kernel
theorem bf157_25 : am_fetch (am_mth 157) 25 = some (.iconst (-1), 1, [], [1]) := by decide +kernel
theorem bf157_26 : am_fetch (am_mth 157) 26 = some (.if_icmp .eq 27, 3, [], [1]) := by decide +kernel
theorem bf157_29 : am_fetch (am_mth 157) 29 = some (.iload_n 2, 1, [], [1]) := by decide +kernel
theorem bf157_30 : am_fetch (am_mth 157) 30 = some (.invokestatic 36, 3, [0, 27, 1, 176, 177, 17], [1, 2]) := by decide +kernel
theorem bf157_33 : am_fetch (am_mth 157) 33 = some (.istore_n 2, 1, [], [1, 2]) := by decide +kernel
theorem bf157_34 : am_fetch (am_mth 157) 34 = some (.aload_n 0, 1, [], [1]) := by decide +kernel
theorem bf157_35 : am_fetch (am_mth 157) 35 = some (.iload_n 3, 1, [], [1]) := by decide +kernel
theorem bf157_36 : am_fetch (am_mth 157) 36 = some (.iload 4, 2, [], [1]) := by decide +kernel
theorem bf157_38 : am_fetch (am_mth 157) 38 = some (.iload_n 2, 1, [], [1]) := by decide +kernel
theorem bf157_39 : am_fetch (am_mth 157) 39 = some (.bipush 40, 2, [], [1]) := by decide +kernel
theorem bf157_41 : am_fetch (am_mth 157) 41 = some (.if_icmp .ge 7, 3, [], [1]) := by decide +kernel
theorem bf157_44 : am_fetch (am_mth 157) 44 = some (.iconst 1, 1, [], [1]) := by decide +kernel
theorem bf157_45 : am_fetch (am_mth 157) 45 = some (.goto 4, 3, [], [1]) := by decide +kernel
theorem bf157_48 : am_fetch (am_mth 157) 48 = some (.iconst 0, 1, [], [1]) := by decide +kernel
theorem bf157_49 : am_fetch (am_mth 157) 49 = some (.iconst 0, 1, [], [1]) := by decide +kernel
theorem bf157_50 : am_fetch (am_mth 157) 50 = some (.invokevirtual 40, 3, [0, 123, 4, 5, 179, 180, 181, 18], [1]) := by decide +kernel
theorem bf157_53 : am_fetch (am_mth 157) 53 = some (.iinc 4 1, 3, [], [1]) := by decide +kernel
theorem bf157_56 : am_fetch (am_mth 157) 56 = some (.goto (-43), 3, [], [1]) := by decide +kernel
theorem bf157_59 : am_fetch (am_mth 157) 59 = some (.iinc 3 1, 3, [], [1, 4]) := by decide +kernel
theorem bf157_62 : am_fetch (am_mth 157) 62 = some (.goto (-58), 3, [], [1, 4]) := by decide +kernel
theorem bf157_65 : am_fetch (am_mth 157) 65 = some (.return_, 1, [], [0, 1, 2, 3, 4]) := by decide +kernel
theorem bk157_0 {w : am_Wd} {l0 : Nat} {l1 : Int32} : am_run 157 0 [some (.ref l0), some (.int l1), none, none, none] [] w = am_run 157 4 [some (.ref l0), none, some (.int l1), some (.int (nI 0)), none] [] w := by
  refine (bu (ls'' := [some (.ref l0), none, none, none, none]) (st' := [.int l1]) bf157_0 bf157_1 rfl rfl).trans ?_
  refine (bu (ls'' := [some (.ref l0), none, some (.int l1), none, none]) (st' := []) bf157_1 bf157_2 rfl rfl).trans ?_
  refine (bu (ls'' := [some (.ref l0), none, some (.int l1), none, none]) (st' := [.int (nI 0)]) bf157_2 bf157_3 rfl rfl).trans ?_
  refine (bu (ls'' := [some (.ref l0), none, some (.int l1), some (.int (nI 0)), none]) (st' := []) bf157_3 bf157_4 rfl rfl).trans ?_
  rfl
theorem bk157_4 {w : am_Wd} {l0 : Nat} {l2 : Int32} {l3 : Int32} : am_run 157 4 [some (.ref l0), none, some (.int l2), some (.int l3), none] [] w = if (nI 36) ≤ l3 then am_run 157 65 [none, none, none, none, none] [] w else am_run 157 10 [some (.ref l0), none, some (.int l2), some (.int l3), none] [] w := by
  refine (bu (ls'' := [some (.ref l0), none, some (.int l2), some (.int l3), none]) (st' := [.int l3]) bf157_4 bf157_5 rfl rfl).trans ?_
  refine (bu (ls'' := [some (.ref l0), none, some (.int l2), some (.int l3), none]) (st' := [.int (nI 36), .int l3]) bf157_5 bf157_7 rfl rfl).trans ?_
  exact bic bf157_7 rfl bf157_65 bf157_10 rfl rfl rfl
theorem bk157_65 {w : am_Wd}  : am_run 157 65 [none, none, none, none, none] [] w = some (.inl none, w) := by
  exact am_e2 bf157_65 rfl (am_ge_rf w)
theorem bk157_10 {w : am_Wd} {l0 : Nat} {l2 : Int32} {l3 : Int32} : am_run 157 10 [some (.ref l0), none, some (.int l2), some (.int l3), none] [] w = am_run 157 13 [some (.ref l0), none, some (.int l2), some (.int l3), some (.int (nI 1))] [] w := by
  refine (bu (ls'' := [some (.ref l0), none, some (.int l2), some (.int l3), none]) (st' := [.int (nI 1)]) bf157_10 bf157_11 rfl rfl).trans ?_
  refine (bu (ls'' := [some (.ref l0), none, some (.int l2), some (.int l3), some (.int (nI 1))]) (st' := []) bf157_11 bf157_13 rfl rfl).trans ?_
  rfl
theorem bk157_13 {w : am_Wd} {l0 : Nat} {l2 : Int32} {l3 : Int32} {l4 : Int32} : am_run 157 13 [some (.ref l0), none, some (.int l2), some (.int l3), some (.int l4)] [] w = if (nI 2) < l4 then am_run 157 59 [some (.ref l0), none, some (.int l2), some (.int l3), none] [] w else am_run 157 19 [some (.ref l0), none, some (.int l2), some (.int l3), some (.int l4)] [] w := by
  refine (bu (ls'' := [some (.ref l0), none, some (.int l2), some (.int l3), some (.int l4)]) (st' := [.int l4]) bf157_13 bf157_15 rfl rfl).trans ?_
  refine (bu (ls'' := [some (.ref l0), none, some (.int l2), some (.int l3), some (.int l4)]) (st' := [.int (nI 2), .int l4]) bf157_15 bf157_16 rfl rfl).trans ?_
  exact bic bf157_16 rfl bf157_59 bf157_19 rfl rfl rfl
theorem bk157_59 {w : am_Wd} {l0 : Nat} {l2 : Int32} {l3 : Int32} : am_run 157 59 [some (.ref l0), none, some (.int l2), some (.int l3), none] [] w = am_run 157 4 [some (.ref l0), none, some (.int l2), some (.int (l3 + (nI 1))), none] [] w := by
  refine (bu (ls'' := [some (.ref l0), none, some (.int l2), some (.int (l3 + (nI 1))), none]) (st' := []) bf157_59 bf157_62 rfl rfl).trans ?_
  refine (bu (ls'' := [some (.ref l0), none, some (.int l2), some (.int (l3 + (nI 1))), none]) (st' := []) bf157_62 bf157_4 rfl rfl).trans ?_
  rfl
theorem bk157_19 {w : am_Wd} {l0 : Nat} {l2 : Int32} {l3 : Int32} {l4 : Int32} : am_run 157 19 [some (.ref l0), none, some (.int l2), some (.int l3), some (.int l4)] [] w = (am_x 13 [.int l3, .int l4] w).bind fun r => bct r fun v w' => am_run 157 25 [some (.ref l0), none, some (.int l2), some (.int l3), some (.int l4)] (v.toList ++ []) w' := by
  refine (bu (ls'' := [some (.ref l0), none, some (.int l2), some (.int l3), some (.int l4)]) (st' := [.int l3]) bf157_19 bf157_20 rfl rfl).trans ?_
  refine (bu (ls'' := [some (.ref l0), none, some (.int l2), some (.int l3), some (.int l4)]) (st' := [.int l4, .int l3]) bf157_20 bf157_22 rfl rfl).trans ?_
  exact bkS bf157_22 bf157_25 rfl (by decide +kernel) (Nat.le_of_ble_eq_true rfl) rfl (bhd rfl)
theorem bk157_25 {w : am_Wd} {l0 : Nat} {l2 : Int32} {l3 : Int32} {l4 : Int32} {s0 : Int32} : am_run 157 25 [some (.ref l0), none, some (.int l2), some (.int l3), some (.int l4)] [.int s0] w = if s0 = (-1 : Int32) then am_run 157 53 [some (.ref l0), none, some (.int l2), some (.int l3), some (.int l4)] [] w else am_run 157 29 [some (.ref l0), none, some (.int l2), some (.int l3), some (.int l4)] [] w := by
  refine (bu (ls'' := [some (.ref l0), none, some (.int l2), some (.int l3), some (.int l4)]) (st' := [.int (-1 : Int32), .int s0]) bf157_25 bf157_26 rfl rfl).trans ?_
  exact bic bf157_26 rfl bf157_53 bf157_29 rfl rfl rfl
theorem bk157_53 {w : am_Wd} {l0 : Nat} {l2 : Int32} {l3 : Int32} {l4 : Int32} : am_run 157 53 [some (.ref l0), none, some (.int l2), some (.int l3), some (.int l4)] [] w = am_run 157 13 [some (.ref l0), none, some (.int l2), some (.int l3), some (.int (l4 + (nI 1)))] [] w := by
  refine (bu (ls'' := [some (.ref l0), none, some (.int l2), some (.int l3), some (.int (l4 + (nI 1)))]) (st' := []) bf157_53 bf157_56 rfl rfl).trans ?_
  refine (bu (ls'' := [some (.ref l0), none, some (.int l2), some (.int l3), some (.int (l4 + (nI 1)))]) (st' := []) bf157_56 bf157_13 rfl rfl).trans ?_
  rfl
theorem bk157_29 {w : am_Wd} {l0 : Nat} {l2 : Int32} {l3 : Int32} {l4 : Int32} : am_run 157 29 [some (.ref l0), none, some (.int l2), some (.int l3), some (.int l4)] [] w = (am_x 27 [.int l2] w).bind fun r => bct r fun v w' => am_run 157 33 [some (.ref l0), none, none, some (.int l3), some (.int l4)] (v.toList ++ []) w' := by
  refine (bu (ls'' := [some (.ref l0), none, none, some (.int l3), some (.int l4)]) (st' := [.int l2]) bf157_29 bf157_30 rfl rfl).trans ?_
  exact bkS bf157_30 bf157_33 rfl (by decide +kernel) (Nat.le_of_ble_eq_true rfl) rfl (bhd rfl)
theorem bk157_33 {w : am_Wd} {l0 : Nat} {l3 : Int32} {l4 : Int32} {s0 : Int32} : am_run 157 33 [some (.ref l0), none, none, some (.int l3), some (.int l4)] [.int s0] w = if (nI 40) ≤ s0 then am_run 157 48 [some (.ref l0), none, some (.int s0), some (.int l3), some (.int l4)] [.int l4, .int l3, .ref l0] w else am_run 157 44 [some (.ref l0), none, some (.int s0), some (.int l3), some (.int l4)] [.int l4, .int l3, .ref l0] w := by
  refine (bu (ls'' := [some (.ref l0), none, some (.int s0), some (.int l3), some (.int l4)]) (st' := []) bf157_33 bf157_34 rfl rfl).trans ?_
  refine (bu (ls'' := [some (.ref l0), none, some (.int s0), some (.int l3), some (.int l4)]) (st' := [.ref l0]) bf157_34 bf157_35 rfl rfl).trans ?_
  refine (bu (ls'' := [some (.ref l0), none, some (.int s0), some (.int l3), some (.int l4)]) (st' := [.int l3, .ref l0]) bf157_35 bf157_36 rfl rfl).trans ?_
  refine (bu (ls'' := [some (.ref l0), none, some (.int s0), some (.int l3), some (.int l4)]) (st' := [.int l4, .int l3, .ref l0]) bf157_36 bf157_38 rfl rfl).trans ?_
  refine (bu (ls'' := [some (.ref l0), none, some (.int s0), some (.int l3), some (.int l4)]) (st' := [.int s0, .int l4, .int l3, .ref l0]) bf157_38 bf157_39 rfl rfl).trans ?_
  refine (bu (ls'' := [some (.ref l0), none, some (.int s0), some (.int l3), some (.int l4)]) (st' := [.int (nI 40), .int s0, .int l4, .int l3, .ref l0]) bf157_39 bf157_41 rfl rfl).trans ?_
  exact bic bf157_41 rfl bf157_48 bf157_44 rfl rfl rfl
theorem bk157_48 {w : am_Wd} {l0 : Nat} {l2 : Int32} {l3 : Int32} {l4 : Int32} {s0 : Int32} {s1 : Int32} {s2 : Nat} : am_run 157 48 [some (.ref l0), none, some (.int l2), some (.int l3), some (.int l4)] [.int s0, .int s1, .ref s2] w = am_run 157 49 [some (.ref l0), none, some (.int l2), some (.int l3), some (.int l4)] [.int (nI 0), .int s0, .int s1, .ref s2] w := by
  refine (bu (ls'' := [some (.ref l0), none, some (.int l2), some (.int l3), some (.int l4)]) (st' := [.int (nI 0), .int s0, .int s1, .ref s2]) bf157_48 bf157_49 rfl rfl).trans ?_
  rfl
theorem bk157_44 {w : am_Wd} {l0 : Nat} {l2 : Int32} {l3 : Int32} {l4 : Int32} {s0 : Int32} {s1 : Int32} {s2 : Nat} : am_run 157 44 [some (.ref l0), none, some (.int l2), some (.int l3), some (.int l4)] [.int s0, .int s1, .ref s2] w = am_run 157 49 [some (.ref l0), none, some (.int l2), some (.int l3), some (.int l4)] [.int (nI 1), .int s0, .int s1, .ref s2] w := by
  refine (bu (ls'' := [some (.ref l0), none, some (.int l2), some (.int l3), some (.int l4)]) (st' := [.int (nI 1), .int s0, .int s1, .ref s2]) bf157_44 bf157_45 rfl rfl).trans ?_
  refine (bu (ls'' := [some (.ref l0), none, some (.int l2), some (.int l3), some (.int l4)]) (st' := [.int (nI 1), .int s0, .int s1, .ref s2]) bf157_45 bf157_49 rfl rfl).trans ?_
  rfl
theorem bk157_49 {w : am_Wd} {l0 : Nat} {l2 : Int32} {l3 : Int32} {l4 : Int32} {s0 : Int32} {s1 : Int32} {s2 : Int32} {s3 : Nat} : am_run 157 49 [some (.ref l0), none, some (.int l2), some (.int l3), some (.int l4)] [.int s0, .int s1, .int s2, .ref s3] w = (am_kf w s3 5).bind fun _ => (am_x 123 [.ref s3, .int s2, .int s1, .int s0, .int (nI 0)] w).bind fun r => bct r fun v w' => am_run 157 53 [some (.ref l0), none, some (.int l2), some (.int l3), some (.int l4)] (v.toList ++ []) w' := by
  refine (bu (ls'' := [some (.ref l0), none, some (.int l2), some (.int l3), some (.int l4)]) (st' := [.int (nI 0), .int s0, .int s1, .int s2, .ref s3]) bf157_49 bf157_50 rfl rfl).trans ?_
  exact bkV bf157_50 bf157_53 rfl (by decide +kernel) (Nat.le_of_ble_eq_true rfl) rfl (bhd rfl)
theorem bf158_0 : am_fetch (am_mth 158) 0 = some (.iconst 0, 1, [], [4, 5]) := by decide +kernel
theorem bf158_1 : am_fetch (am_mth 158) 1 = some (.istore 4, 2, [], [4, 5]) := by decide +kernel
theorem bf158_3 : am_fetch (am_mth 158) 3 = some (.iconst 0, 1, [], [5]) := by decide +kernel
theorem bf158_4 : am_fetch (am_mth 158) 4 = some (.istore 5, 2, [], [5]) := by decide +kernel
theorem bf158_6 : am_fetch (am_mth 158) 6 = some (.iload 5, 2, [], []) := by decide +kernel
theorem bf158_8 : am_fetch (am_mth 158) 8 = some (.iconst 3, 1, [], []) := by decide +kernel
theorem bf158_9 : am_fetch (am_mth 158) 9 = some (.if_icmp .ge 33, 3, [], []) := by decide +kernel
theorem bf158_12 : am_fetch (am_mth 158) 12 = some (.aload_n 0, 1, [], []) := by decide +kernel
theorem bf158_13 : am_fetch (am_mth 158) 13 = some (.iload_n 1, 1, [], []) := by decide +kernel
theorem bf158_14 : am_fetch (am_mth 158) 14 = some (.iload_n 2, 1, [], []) := by decide +kernel
theorem bf158_15 : am_fetch (am_mth 158) 15 = some (.iload 5, 2, [], []) := by decide +kernel
theorem bf158_17 : am_fetch (am_mth 158) 17 = some (.invokestatic 57, 3, [0, 15, 2, 670, 453, 23], []) := by decide +kernel
theorem bf158_20 : am_fetch (am_mth 158) 20 = some (.iload_n 3, 1, [], []) := by decide +kernel
theorem bf158_21 : am_fetch (am_mth 158) 21 = some (.invokevirtual 60, 3, [0, 126, 3, 5, 363, 364, 365, 18], []) := by decide +kernel
theorem bf158_24 : am_fetch (am_mth 158) 24 = some (.ifCond .eq 12, 3, [], []) := by decide +kernel
theorem bf158_27 : am_fetch (am_mth 158) 27 = some (.iload 4, 2, [], []) := by decide +kernel
theorem bf158_29 : am_fetch (am_mth 158) 29 = some (.iconst 1, 1, [], [4]) := by decide +kernel
theorem bf158_30 : am_fetch (am_mth 158) 30 = some (.iload 5, 2, [], [4]) := by decide +kernel
theorem bf158_32 : am_fetch (am_mth 158) 32 = some (.ishl, 1, [], [4]) := by decide +kernel
theorem bf158_33 : am_fetch (am_mth 158) 33 = some (.ior, 1, [], [4]) := by decide +kernel
theorem bf158_34 : am_fetch (am_mth 158) 34 = some (.istore 4, 2, [], [4]) := by decide +kernel
theorem bf158_36 : am_fetch (am_mth 158) 36 = some (.iinc 5 1, 3, [], []) := by decide +kernel
theorem bf158_39 : am_fetch (am_mth 158) 39 = some (.goto (-33), 3, [], []) := by decide +kernel
theorem bf158_42 : am_fetch (am_mth 158) 42 = some (.iload 4, 2, [], [0, 1, 2, 3, 5]) := by decide +kernel
theorem bf158_44 : am_fetch (am_mth 158) 44 = some (.ireturn, 1, [0], [0, 1, 2, 3, 4, 5]) := by decide +kernel
theorem bk158_0 {w : am_Wd} {l0 : Nat} {l1 : Int32} {l2 : Int32} {l3 : Int32} : am_run 158 0 [some (.ref l0), some (.int l1), some (.int l2), some (.int l3), none, none] [] w = am_run 158 6 [some (.ref l0), some (.int l1), some (.int l2), some (.int l3), some (.int (nI 0)), some (.int (nI 0))] [] w := by
  refine (bu (ls'' := [some (.ref l0), some (.int l1), some (.int l2), some (.int l3), none, none]) (st' := [.int (nI 0)]) bf158_0 bf158_1 rfl rfl).trans ?_
  refine (bu (ls'' := [some (.ref l0), some (.int l1), some (.int l2), some (.int l3), some (.int (nI 0)), none]) (st' := []) bf158_1 bf158_3 rfl rfl).trans ?_
  refine (bu (ls'' := [some (.ref l0), some (.int l1), some (.int l2), some (.int l3), some (.int (nI 0)), none]) (st' := [.int (nI 0)]) bf158_3 bf158_4 rfl rfl).trans ?_
  refine (bu (ls'' := [some (.ref l0), some (.int l1), some (.int l2), some (.int l3), some (.int (nI 0)), some (.int (nI 0))]) (st' := []) bf158_4 bf158_6 rfl rfl).trans ?_
  rfl
theorem bk158_6 {w : am_Wd} {l0 : Nat} {l1 : Int32} {l2 : Int32} {l3 : Int32} {l4 : Int32} {l5 : Int32} : am_run 158 6 [some (.ref l0), some (.int l1), some (.int l2), some (.int l3), some (.int l4), some (.int l5)] [] w = if (nI 3) ≤ l5 then am_run 158 42 [none, none, none, none, some (.int l4), none] [] w else am_run 158 12 [some (.ref l0), some (.int l1), some (.int l2), some (.int l3), some (.int l4), some (.int l5)] [] w := by
  refine (bu (ls'' := [some (.ref l0), some (.int l1), some (.int l2), some (.int l3), some (.int l4), some (.int l5)]) (st' := [.int l5]) bf158_6 bf158_8 rfl rfl).trans ?_
  refine (bu (ls'' := [some (.ref l0), some (.int l1), some (.int l2), some (.int l3), some (.int l4), some (.int l5)]) (st' := [.int (nI 3), .int l5]) bf158_8 bf158_9 rfl rfl).trans ?_
  exact bic bf158_9 rfl bf158_42 bf158_12 rfl rfl rfl
theorem bk158_42 {w : am_Wd} {l4 : Int32} : am_run 158 42 [none, none, none, none, some (.int l4), none] [] w = some (.inl (some (.int l4)), w) := by
  refine (bu (ls'' := [none, none, none, none, none, none]) (st' := [.int l4]) bf158_42 bf158_44 rfl rfl).trans ?_
  exact am_e2 bf158_44 rfl (am_ge_rf w)
theorem bk158_12 {w : am_Wd} {l0 : Nat} {l1 : Int32} {l2 : Int32} {l3 : Int32} {l4 : Int32} {l5 : Int32} : am_run 158 12 [some (.ref l0), some (.int l1), some (.int l2), some (.int l3), some (.int l4), some (.int l5)] [] w = (am_x 15 [.int l2, .int l5] w).bind fun r => bct r fun v w' => am_run 158 20 [some (.ref l0), some (.int l1), some (.int l2), some (.int l3), some (.int l4), some (.int l5)] (v.toList ++ [.int l1, .ref l0]) w' := by
  refine (bu (ls'' := [some (.ref l0), some (.int l1), some (.int l2), some (.int l3), some (.int l4), some (.int l5)]) (st' := [.ref l0]) bf158_12 bf158_13 rfl rfl).trans ?_
  refine (bu (ls'' := [some (.ref l0), some (.int l1), some (.int l2), some (.int l3), some (.int l4), some (.int l5)]) (st' := [.int l1, .ref l0]) bf158_13 bf158_14 rfl rfl).trans ?_
  refine (bu (ls'' := [some (.ref l0), some (.int l1), some (.int l2), some (.int l3), some (.int l4), some (.int l5)]) (st' := [.int l2, .int l1, .ref l0]) bf158_14 bf158_15 rfl rfl).trans ?_
  refine (bu (ls'' := [some (.ref l0), some (.int l1), some (.int l2), some (.int l3), some (.int l4), some (.int l5)]) (st' := [.int l5, .int l2, .int l1, .ref l0]) bf158_15 bf158_17 rfl rfl).trans ?_
  exact bkS bf158_17 bf158_20 rfl (by decide +kernel) (Nat.le_of_ble_eq_true rfl) rfl (bhd rfl)
theorem bk158_20 {w : am_Wd} {l0 : Nat} {l1 : Int32} {l2 : Int32} {l3 : Int32} {l4 : Int32} {l5 : Int32} {s0 : Int32} {s1 : Int32} {s2 : Nat} : am_run 158 20 [some (.ref l0), some (.int l1), some (.int l2), some (.int l3), some (.int l4), some (.int l5)] [.int s0, .int s1, .ref s2] w = (am_kf w s2 5).bind fun _ => (am_x 126 [.ref s2, .int s1, .int s0, .int l3] w).bind fun r => bct r fun v w' => am_run 158 24 [some (.ref l0), some (.int l1), some (.int l2), some (.int l3), some (.int l4), some (.int l5)] (v.toList ++ []) w' := by
  refine (bu (ls'' := [some (.ref l0), some (.int l1), some (.int l2), some (.int l3), some (.int l4), some (.int l5)]) (st' := [.int l3, .int s0, .int s1, .ref s2]) bf158_20 bf158_21 rfl rfl).trans ?_
  exact bkV bf158_21 bf158_24 rfl (by decide +kernel) (Nat.le_of_ble_eq_true rfl) rfl (bhd rfl)
theorem bk158_24 {w : am_Wd} {l0 : Nat} {l1 : Int32} {l2 : Int32} {l3 : Int32} {l4 : Int32} {l5 : Int32} {s0 : Int32} : am_run 158 24 [some (.ref l0), some (.int l1), some (.int l2), some (.int l3), some (.int l4), some (.int l5)] [.int s0] w = if s0 = nI 0 then am_run 158 36 [some (.ref l0), some (.int l1), some (.int l2), some (.int l3), some (.int l4), some (.int l5)] [] w else am_run 158 27 [some (.ref l0), some (.int l1), some (.int l2), some (.int l3), some (.int l4), some (.int l5)] [] w := by
  exact bifc bf158_24 rfl bf158_36 bf158_27 rfl rfl rfl
theorem bk158_36 {w : am_Wd} {l0 : Nat} {l1 : Int32} {l2 : Int32} {l3 : Int32} {l4 : Int32} {l5 : Int32} : am_run 158 36 [some (.ref l0), some (.int l1), some (.int l2), some (.int l3), some (.int l4), some (.int l5)] [] w = am_run 158 6 [some (.ref l0), some (.int l1), some (.int l2), some (.int l3), some (.int l4), some (.int (l5 + (nI 1)))] [] w := by
  refine (bu (ls'' := [some (.ref l0), some (.int l1), some (.int l2), some (.int l3), some (.int l4), some (.int (l5 + (nI 1)))]) (st' := []) bf158_36 bf158_39 rfl rfl).trans ?_
  refine (bu (ls'' := [some (.ref l0), some (.int l1), some (.int l2), some (.int l3), some (.int l4), some (.int (l5 + (nI 1)))]) (st' := []) bf158_39 bf158_6 rfl rfl).trans ?_
  rfl
theorem bk158_27 {w : am_Wd} {l0 : Nat} {l1 : Int32} {l2 : Int32} {l3 : Int32} {l4 : Int32} {l5 : Int32} : am_run 158 27 [some (.ref l0), some (.int l1), some (.int l2), some (.int l3), some (.int l4), some (.int l5)] [] w = am_run 158 36 [some (.ref l0), some (.int l1), some (.int l2), some (.int l3), some (.int (l4 ||| (bj_ishl (nI 1) l5))), some (.int l5)] [] w := by
  refine (bu (ls'' := [some (.ref l0), some (.int l1), some (.int l2), some (.int l3), none, some (.int l5)]) (st' := [.int l4]) bf158_27 bf158_29 rfl rfl).trans ?_
  refine (bu (ls'' := [some (.ref l0), some (.int l1), some (.int l2), some (.int l3), none, some (.int l5)]) (st' := [.int (nI 1), .int l4]) bf158_29 bf158_30 rfl rfl).trans ?_
  refine (bu (ls'' := [some (.ref l0), some (.int l1), some (.int l2), some (.int l3), none, some (.int l5)]) (st' := [.int l5, .int (nI 1), .int l4]) bf158_30 bf158_32 rfl rfl).trans ?_
  refine (bu (ls'' := [some (.ref l0), some (.int l1), some (.int l2), some (.int l3), none, some (.int l5)]) (st' := [.int (bj_ishl (nI 1) l5), .int l4]) bf158_32 bf158_33 rfl rfl).trans ?_
  refine (bu (ls'' := [some (.ref l0), some (.int l1), some (.int l2), some (.int l3), none, some (.int l5)]) (st' := [.int (l4 ||| (bj_ishl (nI 1) l5))]) bf158_33 bf158_34 rfl rfl).trans ?_
  refine (bu (ls'' := [some (.ref l0), some (.int l1), some (.int l2), some (.int l3), some (.int (l4 ||| (bj_ishl (nI 1) l5))), some (.int l5)]) (st' := []) bf158_34 bf158_36 rfl rfl).trans ?_
  rfl
theorem bf159_0 : am_fetch (am_mth 159) 0 = some (.iconst 0, 1, [], [4, 5, 6, 7, 8]) := by decide +kernel
theorem bf159_1 : am_fetch (am_mth 159) 1 = some (.istore 4, 2, [], [4, 5, 6, 7, 8]) := by decide +kernel
theorem bf159_3 : am_fetch (am_mth 159) 3 = some (.iconst 0, 1, [], [5, 6, 7, 8]) := by decide +kernel
theorem bf159_4 : am_fetch (am_mth 159) 4 = some (.istore 5, 2, [], [5, 6, 7, 8]) := by decide +kernel
theorem bf159_6 : am_fetch (am_mth 159) 6 = some (.iload 5, 2, [], [6, 7, 8]) := by decide +kernel
theorem bf159_8 : am_fetch (am_mth 159) 8 = some (.bipush 36, 2, [], [6, 7, 8]) := by decide +kernel
theorem bf159_10 : am_fetch (am_mth 159) 10 = some (.if_icmp .ge 99, 3, [], [6, 7, 8]) := by decide +kernel
theorem bf159_13 : am_fetch (am_mth 159) 13 = some (.iconst 1, 1, [], [6, 7, 8]) := by decide +kernel
theorem bf159_14 : am_fetch (am_mth 159) 14 = some (.istore 6, 2, [], [6, 7, 8]) := by decide +kernel
theorem bf159_16 : am_fetch (am_mth 159) 16 = some (.iload 6, 2, [], [7, 8]) := by decide +kernel
theorem bf159_18 : am_fetch (am_mth 159) 18 = some (.iconst 2, 1, [], [7, 8]) := by decide +kernel
theorem bf159_19 : am_fetch (am_mth 159) 19 = some (.if_icmp .gt 84, 3, [], [7, 8]) := by decide +kernel
theorem bf159_22 : am_fetch (am_mth 159) 22 = some (.aload_n 1, 1, [], [7, 8]) := by decide +kernel
theorem bf159_23 : am_fetch (am_mth 159) 23 = some (.iload 5, 2, [], [7, 8]) := by decide +kernel
theorem bf159_25 : am_fetch (am_mth 159) 25 = some (.iload 6, 2, [], [7, 8]) := by decide +kernel
theorem bf159_27 : am_fetch (am_mth 159) 27 = some (.invokevirtual 64, 3, [0, 81, 2, 7, 356, 357, 358, 29], [7, 8]) := by decide +kernel
theorem bf159_30 : am_fetch (am_mth 159) 30 = some (.istore 7, 2, [], [7, 8]) := by decide +kernel
theorem bf159_32 : am_fetch (am_mth 159) 32 = some (.iload 5, 2, [], [8]) := by decide +kernel
theorem bf159_34 : am_fetch (am_mth 159) 34 = some (.iload 6, 2, [], [8]) := by decide +kernel
theorem bf159_36 : am_fetch (am_mth 159) 36 = some (.invokestatic 18, 3, [0, 13, 2, 173, 174, 23], [8]) := by decide +kernel
theorem bf159_39 : am_fetch (am_mth 159) 39 = some (.iconst (-1), 1, [], [8]) := by decide +kernel
theorem bf159_40 : am_fetch (am_mth 159) 40 = some (.if_icmp .eq 57, 3, [], [8]) := by decide +kernel
theorem bf159_43 : am_fetch (am_mth 159) 43 = some (.iload 7, 2, [], [8]) := by decide +kernel
theorem bf159_45 : am_fetch (am_mth 159) 45 = some (.ifCond .eq 52, 3, [], [8]) := by decide +kernel
theorem bf159_48 : am_fetch (am_mth 159) 48 = some (.aload_n 0, 1, [], [8]) := by decide +kernel
theorem bf159_49 : am_fetch (am_mth 159) 49 = some (.iload 5, 2, [], [8]) := by decide +kernel
theorem bf159_51 : am_fetch (am_mth 159) 51 = some (.iload 6, 2, [], [8]) := by decide +kernel
theorem bf159_53 : am_fetch (am_mth 159) 53 = some (.iload_n 3, 1, [], [8]) := by decide +kernel
theorem bf159_54 : am_fetch (am_mth 159) 54 = some (.invokevirtual 60, 3, [0, 126, 3, 5, 363, 364, 365, 18], [8]) := by decide +kernel
theorem bf159_57 : am_fetch (am_mth 159) 57 = some (.iload 7, 2, [], [8]) := by decide +kernel
theorem bf159_59 : am_fetch (am_mth 159) 59 = some (.iconst 2, 1, [], [7, 8]) := by decide +kernel
theorem bf159_60 : am_fetch (am_mth 159) 60 = some (.if_icmp .ne 7, 3, [], [7, 8]) := by decide +kernel
theorem bf159_63 : am_fetch (am_mth 159) 63 = some (.iconst 1, 1, [], [7, 8]) := by decide +kernel
theorem bf159_64 : am_fetch (am_mth 159) 64 = some (.goto 4, 3, [], [7, 8]) := by decide +kernel
theorem bf159_67 : am_fetch (am_mth 159) 67 = some (.iconst 0, 1, [], [7, 8]) := by decide +kernel
theorem bf159_68 : am_fetch (am_mth 159) 68 = some (.if_icmp .ne 7, 3, [], [7, 8]) := by decide +kernel
theorem bf159_71 : am_fetch (am_mth 159) 71 = some (.iconst 1, 1, [], [7, 8]) := by decide +kernel
theorem bf159_72 : am_fetch (am_mth 159) 72 = some (.goto 4, 3, [], [7, 8]) := by decide +kernel
theorem bf159_75 : am_fetch (am_mth 159) 75 = some (.iconst 0, 1, [], [7, 8]) := by decide +kernel
theorem bf159_76 : am_fetch (am_mth 159) 76 = some (.istore 8, 2, [], [7, 8]) := by decide +kernel
theorem bf159_78 : am_fetch (am_mth 159) 78 = some (.iload 4, 2, [], [7]) := by decide +kernel
theorem bf159_80 : am_fetch (am_mth 159) 80 = some (.iload 8, 2, [], [4, 7]) := by decide +kernel
theorem bf159_82 : am_fetch (am_mth 159) 82 = some (.iload_n 2, 1, [], [4, 7, 8]) := by decide +kernel
theorem bf159_83 : am_fetch (am_mth 159) 83 = some (.if_icmp .ne 7, 3, [], [4, 7, 8]) := by decide +kernel
theorem bf159_86 : am_fetch (am_mth 159) 86 = some (.iconst 1, 1, [], [4, 7, 8]) := by decide +kernel
theorem bf159_87 : am_fetch (am_mth 159) 87 = some (.goto 4, 3, [], [4, 7, 8]) := by decide +kernel
theorem bf159_90 : am_fetch (am_mth 159) 90 = some (.iconst 0, 1, [], [4, 7, 8]) := by decide +kernel
theorem bf159_91 : am_fetch (am_mth 159) 91 = some (.invokestatic 69, 3, [0, 26, 1, 370, 371, 17], [4, 7, 8]) := by decide +kernel
theorem bf159_94 : am_fetch (am_mth 159) 94 = some (.iadd, 1, [], [4, 7, 8]) := by decide +kernel
theorem bf159_95 : am_fetch (am_mth 159) 95 = some (.istore 4, 2, [], [4, 7, 8]) := by decide +kernel
theorem bf159_97 : am_fetch (am_mth 159) 97 = some (.iinc 6 1, 3, [], [7, 8]) := by decide +kernel
theorem bf159_100 : am_fetch (am_mth 159) 100 = some (.goto (-84), 3, [], [7, 8]) := by decide +kernel
theorem bf159_103 : am_fetch (am_mth 159) 103 = some (.iinc 5 1, 3, [], [6, 7, 8]) := by decide +kernel
theorem bf159_106 : am_fetch (am_mth 159) 106 = some (.goto (-100), 3, [], [6, 7, 8]) := by decide +kernel
theorem bf159_109 : am_fetch (am_mth 159) 109 = some (.iload 4, 2, [], [0, 1, 2, 3, 5, 6, 7, 8]) := by decide +kernel
theorem bf159_111 : am_fetch (am_mth 159) 111 = some (.ireturn, 1, [0], [0, 1, 2, 3, 4, 5, 6, 7, 8]) := by decide +kernel
theorem bk159_0 {w : am_Wd} {l0 : Nat} {l1 : Nat} {l2 : Int32} {l3 : Int32} : am_run 159 0 [some (.ref l0), some (.ref l1), some (.int l2), some (.int l3), none, none, none, none, none] [] w = am_run 159 6 [some (.ref l0), some (.ref l1), some (.int l2), some (.int l3), some (.int (nI 0)), some (.int (nI 0)), none, none, none] [] w := by
  refine (bu (ls'' := [some (.ref l0), some (.ref l1), some (.int l2), some (.int l3), none, none, none, none, none]) (st' := [.int (nI 0)]) bf159_0 bf159_1 rfl rfl).trans ?_
  refine (bu (ls'' := [some (.ref l0), some (.ref l1), some (.int l2), some (.int l3), some (.int (nI 0)), none, none, none, none]) (st' := []) bf159_1 bf159_3 rfl rfl).trans ?_
  refine (bu (ls'' := [some (.ref l0), some (.ref l1), some (.int l2), some (.int l3), some (.int (nI 0)), none, none, none, none]) (st' := [.int (nI 0)]) bf159_3 bf159_4 rfl rfl).trans ?_
  refine (bu (ls'' := [some (.ref l0), some (.ref l1), some (.int l2), some (.int l3), some (.int (nI 0)), some (.int (nI 0)), none, none, none]) (st' := []) bf159_4 bf159_6 rfl rfl).trans ?_
  rfl
theorem bk159_6 {w : am_Wd} {l0 : Nat} {l1 : Nat} {l2 : Int32} {l3 : Int32} {l4 : Int32} {l5 : Int32} : am_run 159 6 [some (.ref l0), some (.ref l1), some (.int l2), some (.int l3), some (.int l4), some (.int l5), none, none, none] [] w = if (nI 36) ≤ l5 then am_run 159 109 [none, none, none, none, some (.int l4), none, none, none, none] [] w else am_run 159 13 [some (.ref l0), some (.ref l1), some (.int l2), some (.int l3), some (.int l4), some (.int l5), none, none, none] [] w := by
  refine (bu (ls'' := [some (.ref l0), some (.ref l1), some (.int l2), some (.int l3), some (.int l4), some (.int l5), none, none, none]) (st' := [.int l5]) bf159_6 bf159_8 rfl rfl).trans ?_
  refine (bu (ls'' := [some (.ref l0), some (.ref l1), some (.int l2), some (.int l3), some (.int l4), some (.int l5), none, none, none]) (st' := [.int (nI 36), .int l5]) bf159_8 bf159_10 rfl rfl).trans ?_
  exact bic bf159_10 rfl bf159_109 bf159_13 rfl rfl rfl
theorem bk159_109 {w : am_Wd} {l4 : Int32} : am_run 159 109 [none, none, none, none, some (.int l4), none, none, none, none] [] w = some (.inl (some (.int l4)), w) := by
  refine (bu (ls'' := [none, none, none, none, none, none, none, none, none]) (st' := [.int l4]) bf159_109 bf159_111 rfl rfl).trans ?_
  exact am_e2 bf159_111 rfl (am_ge_rf w)
theorem bk159_13 {w : am_Wd} {l0 : Nat} {l1 : Nat} {l2 : Int32} {l3 : Int32} {l4 : Int32} {l5 : Int32} : am_run 159 13 [some (.ref l0), some (.ref l1), some (.int l2), some (.int l3), some (.int l4), some (.int l5), none, none, none] [] w = am_run 159 16 [some (.ref l0), some (.ref l1), some (.int l2), some (.int l3), some (.int l4), some (.int l5), some (.int (nI 1)), none, none] [] w := by
  refine (bu (ls'' := [some (.ref l0), some (.ref l1), some (.int l2), some (.int l3), some (.int l4), some (.int l5), none, none, none]) (st' := [.int (nI 1)]) bf159_13 bf159_14 rfl rfl).trans ?_
  refine (bu (ls'' := [some (.ref l0), some (.ref l1), some (.int l2), some (.int l3), some (.int l4), some (.int l5), some (.int (nI 1)), none, none]) (st' := []) bf159_14 bf159_16 rfl rfl).trans ?_
  rfl
theorem bk159_16 {w : am_Wd} {l0 : Nat} {l1 : Nat} {l2 : Int32} {l3 : Int32} {l4 : Int32} {l5 : Int32} {l6 : Int32} : am_run 159 16 [some (.ref l0), some (.ref l1), some (.int l2), some (.int l3), some (.int l4), some (.int l5), some (.int l6), none, none] [] w = if (nI 2) < l6 then am_run 159 103 [some (.ref l0), some (.ref l1), some (.int l2), some (.int l3), some (.int l4), some (.int l5), none, none, none] [] w else am_run 159 22 [some (.ref l0), some (.ref l1), some (.int l2), some (.int l3), some (.int l4), some (.int l5), some (.int l6), none, none] [] w := by
  refine (bu (ls'' := [some (.ref l0), some (.ref l1), some (.int l2), some (.int l3), some (.int l4), some (.int l5), some (.int l6), none, none]) (st' := [.int l6]) bf159_16 bf159_18 rfl rfl).trans ?_
  refine (bu (ls'' := [some (.ref l0), some (.ref l1), some (.int l2), some (.int l3), some (.int l4), some (.int l5), some (.int l6), none, none]) (st' := [.int (nI 2), .int l6]) bf159_18 bf159_19 rfl rfl).trans ?_
  exact bic bf159_19 rfl bf159_103 bf159_22 rfl rfl rfl
theorem bk159_103 {w : am_Wd} {l0 : Nat} {l1 : Nat} {l2 : Int32} {l3 : Int32} {l4 : Int32} {l5 : Int32} : am_run 159 103 [some (.ref l0), some (.ref l1), some (.int l2), some (.int l3), some (.int l4), some (.int l5), none, none, none] [] w = am_run 159 6 [some (.ref l0), some (.ref l1), some (.int l2), some (.int l3), some (.int l4), some (.int (l5 + (nI 1))), none, none, none] [] w := by
  refine (bu (ls'' := [some (.ref l0), some (.ref l1), some (.int l2), some (.int l3), some (.int l4), some (.int (l5 + (nI 1))), none, none, none]) (st' := []) bf159_103 bf159_106 rfl rfl).trans ?_
  refine (bu (ls'' := [some (.ref l0), some (.ref l1), some (.int l2), some (.int l3), some (.int l4), some (.int (l5 + (nI 1))), none, none, none]) (st' := []) bf159_106 bf159_6 rfl rfl).trans ?_
  rfl
theorem bk159_22 {w : am_Wd} {l0 : Nat} {l1 : Nat} {l2 : Int32} {l3 : Int32} {l4 : Int32} {l5 : Int32} {l6 : Int32} : am_run 159 22 [some (.ref l0), some (.ref l1), some (.int l2), some (.int l3), some (.int l4), some (.int l5), some (.int l6), none, none] [] w = (am_kf w l1 7).bind fun _ => (am_x 81 [.ref l1, .int l5, .int l6] w).bind fun r => bct r fun v w' => am_run 159 30 [some (.ref l0), some (.ref l1), some (.int l2), some (.int l3), some (.int l4), some (.int l5), some (.int l6), none, none] (v.toList ++ []) w' := by
  refine (bu (ls'' := [some (.ref l0), some (.ref l1), some (.int l2), some (.int l3), some (.int l4), some (.int l5), some (.int l6), none, none]) (st' := [.ref l1]) bf159_22 bf159_23 rfl rfl).trans ?_
  refine (bu (ls'' := [some (.ref l0), some (.ref l1), some (.int l2), some (.int l3), some (.int l4), some (.int l5), some (.int l6), none, none]) (st' := [.int l5, .ref l1]) bf159_23 bf159_25 rfl rfl).trans ?_
  refine (bu (ls'' := [some (.ref l0), some (.ref l1), some (.int l2), some (.int l3), some (.int l4), some (.int l5), some (.int l6), none, none]) (st' := [.int l6, .int l5, .ref l1]) bf159_25 bf159_27 rfl rfl).trans ?_
  exact bkV bf159_27 bf159_30 rfl (by decide +kernel) (Nat.le_of_ble_eq_true rfl) rfl (bhd rfl)
theorem bk159_30 {w : am_Wd} {l0 : Nat} {l1 : Nat} {l2 : Int32} {l3 : Int32} {l4 : Int32} {l5 : Int32} {l6 : Int32} {s0 : Int32} : am_run 159 30 [some (.ref l0), some (.ref l1), some (.int l2), some (.int l3), some (.int l4), some (.int l5), some (.int l6), none, none] [.int s0] w = (am_x 13 [.int l5, .int l6] w).bind fun r => bct r fun v w' => am_run 159 39 [some (.ref l0), some (.ref l1), some (.int l2), some (.int l3), some (.int l4), some (.int l5), some (.int l6), some (.int s0), none] (v.toList ++ []) w' := by
  refine (bu (ls'' := [some (.ref l0), some (.ref l1), some (.int l2), some (.int l3), some (.int l4), some (.int l5), some (.int l6), some (.int s0), none]) (st' := []) bf159_30 bf159_32 rfl rfl).trans ?_
  refine (bu (ls'' := [some (.ref l0), some (.ref l1), some (.int l2), some (.int l3), some (.int l4), some (.int l5), some (.int l6), some (.int s0), none]) (st' := [.int l5]) bf159_32 bf159_34 rfl rfl).trans ?_
  refine (bu (ls'' := [some (.ref l0), some (.ref l1), some (.int l2), some (.int l3), some (.int l4), some (.int l5), some (.int l6), some (.int s0), none]) (st' := [.int l6, .int l5]) bf159_34 bf159_36 rfl rfl).trans ?_
  exact bkS bf159_36 bf159_39 rfl (by decide +kernel) (Nat.le_of_ble_eq_true rfl) rfl (bhd rfl)
theorem bk159_39 {w : am_Wd} {l0 : Nat} {l1 : Nat} {l2 : Int32} {l3 : Int32} {l4 : Int32} {l5 : Int32} {l6 : Int32} {l7 : Int32} {s0 : Int32} : am_run 159 39 [some (.ref l0), some (.ref l1), some (.int l2), some (.int l3), some (.int l4), some (.int l5), some (.int l6), some (.int l7), none] [.int s0] w = if s0 = (-1 : Int32) then am_run 159 97 [some (.ref l0), some (.ref l1), some (.int l2), some (.int l3), some (.int l4), some (.int l5), some (.int l6), none, none] [] w else am_run 159 43 [some (.ref l0), some (.ref l1), some (.int l2), some (.int l3), some (.int l4), some (.int l5), some (.int l6), some (.int l7), none] [] w := by
  refine (bu (ls'' := [some (.ref l0), some (.ref l1), some (.int l2), some (.int l3), some (.int l4), some (.int l5), some (.int l6), some (.int l7), none]) (st' := [.int (-1 : Int32), .int s0]) bf159_39 bf159_40 rfl rfl).trans ?_
  exact bic bf159_40 rfl bf159_97 bf159_43 rfl rfl rfl
theorem bk159_97 {w : am_Wd} {l0 : Nat} {l1 : Nat} {l2 : Int32} {l3 : Int32} {l4 : Int32} {l5 : Int32} {l6 : Int32} : am_run 159 97 [some (.ref l0), some (.ref l1), some (.int l2), some (.int l3), some (.int l4), some (.int l5), some (.int l6), none, none] [] w = am_run 159 16 [some (.ref l0), some (.ref l1), some (.int l2), some (.int l3), some (.int l4), some (.int l5), some (.int (l6 + (nI 1))), none, none] [] w := by
  refine (bu (ls'' := [some (.ref l0), some (.ref l1), some (.int l2), some (.int l3), some (.int l4), some (.int l5), some (.int (l6 + (nI 1))), none, none]) (st' := []) bf159_97 bf159_100 rfl rfl).trans ?_
  refine (bu (ls'' := [some (.ref l0), some (.ref l1), some (.int l2), some (.int l3), some (.int l4), some (.int l5), some (.int (l6 + (nI 1))), none, none]) (st' := []) bf159_100 bf159_16 rfl rfl).trans ?_
  rfl
theorem bk159_43 {w : am_Wd} {l0 : Nat} {l1 : Nat} {l2 : Int32} {l3 : Int32} {l4 : Int32} {l5 : Int32} {l6 : Int32} {l7 : Int32} : am_run 159 43 [some (.ref l0), some (.ref l1), some (.int l2), some (.int l3), some (.int l4), some (.int l5), some (.int l6), some (.int l7), none] [] w = if l7 = nI 0 then am_run 159 97 [some (.ref l0), some (.ref l1), some (.int l2), some (.int l3), some (.int l4), some (.int l5), some (.int l6), none, none] [] w else am_run 159 48 [some (.ref l0), some (.ref l1), some (.int l2), some (.int l3), some (.int l4), some (.int l5), some (.int l6), some (.int l7), none] [] w := by
  refine (bu (ls'' := [some (.ref l0), some (.ref l1), some (.int l2), some (.int l3), some (.int l4), some (.int l5), some (.int l6), some (.int l7), none]) (st' := [.int l7]) bf159_43 bf159_45 rfl rfl).trans ?_
  exact bifc bf159_45 rfl bf159_97 bf159_48 rfl rfl rfl
theorem bk159_48 {w : am_Wd} {l0 : Nat} {l1 : Nat} {l2 : Int32} {l3 : Int32} {l4 : Int32} {l5 : Int32} {l6 : Int32} {l7 : Int32} : am_run 159 48 [some (.ref l0), some (.ref l1), some (.int l2), some (.int l3), some (.int l4), some (.int l5), some (.int l6), some (.int l7), none] [] w = (am_kf w l0 5).bind fun _ => (am_x 126 [.ref l0, .int l5, .int l6, .int l3] w).bind fun r => bct r fun v w' => am_run 159 57 [some (.ref l0), some (.ref l1), some (.int l2), some (.int l3), some (.int l4), some (.int l5), some (.int l6), some (.int l7), none] (v.toList ++ []) w' := by
  refine (bu (ls'' := [some (.ref l0), some (.ref l1), some (.int l2), some (.int l3), some (.int l4), some (.int l5), some (.int l6), some (.int l7), none]) (st' := [.ref l0]) bf159_48 bf159_49 rfl rfl).trans ?_
  refine (bu (ls'' := [some (.ref l0), some (.ref l1), some (.int l2), some (.int l3), some (.int l4), some (.int l5), some (.int l6), some (.int l7), none]) (st' := [.int l5, .ref l0]) bf159_49 bf159_51 rfl rfl).trans ?_
  refine (bu (ls'' := [some (.ref l0), some (.ref l1), some (.int l2), some (.int l3), some (.int l4), some (.int l5), some (.int l6), some (.int l7), none]) (st' := [.int l6, .int l5, .ref l0]) bf159_51 bf159_53 rfl rfl).trans ?_
  refine (bu (ls'' := [some (.ref l0), some (.ref l1), some (.int l2), some (.int l3), some (.int l4), some (.int l5), some (.int l6), some (.int l7), none]) (st' := [.int l3, .int l6, .int l5, .ref l0]) bf159_53 bf159_54 rfl rfl).trans ?_
  exact bkV bf159_54 bf159_57 rfl (by decide +kernel) (Nat.le_of_ble_eq_true rfl) rfl (bhd rfl)
theorem bk159_57 {w : am_Wd} {l0 : Nat} {l1 : Nat} {l2 : Int32} {l3 : Int32} {l4 : Int32} {l5 : Int32} {l6 : Int32} {l7 : Int32} {s0 : Int32} : am_run 159 57 [some (.ref l0), some (.ref l1), some (.int l2), some (.int l3), some (.int l4), some (.int l5), some (.int l6), some (.int l7), none] [.int s0] w = if ¬ l7 = (nI 2) then am_run 159 67 [some (.ref l0), some (.ref l1), some (.int l2), some (.int l3), some (.int l4), some (.int l5), some (.int l6), none, none] [.int s0] w else am_run 159 63 [some (.ref l0), some (.ref l1), some (.int l2), some (.int l3), some (.int l4), some (.int l5), some (.int l6), none, none] [.int s0] w := by
  refine (bu (ls'' := [some (.ref l0), some (.ref l1), some (.int l2), some (.int l3), some (.int l4), some (.int l5), some (.int l6), none, none]) (st' := [.int l7, .int s0]) bf159_57 bf159_59 rfl rfl).trans ?_
  refine (bu (ls'' := [some (.ref l0), some (.ref l1), some (.int l2), some (.int l3), some (.int l4), some (.int l5), some (.int l6), none, none]) (st' := [.int (nI 2), .int l7, .int s0]) bf159_59 bf159_60 rfl rfl).trans ?_
  exact bic bf159_60 rfl bf159_67 bf159_63 rfl rfl rfl
theorem bk159_67 {w : am_Wd} {l0 : Nat} {l1 : Nat} {l2 : Int32} {l3 : Int32} {l4 : Int32} {l5 : Int32} {l6 : Int32} {s0 : Int32} : am_run 159 67 [some (.ref l0), some (.ref l1), some (.int l2), some (.int l3), some (.int l4), some (.int l5), some (.int l6), none, none] [.int s0] w = am_run 159 68 [some (.ref l0), some (.ref l1), some (.int l2), some (.int l3), some (.int l4), some (.int l5), some (.int l6), none, none] [.int (nI 0), .int s0] w := by
  refine (bu (ls'' := [some (.ref l0), some (.ref l1), some (.int l2), some (.int l3), some (.int l4), some (.int l5), some (.int l6), none, none]) (st' := [.int (nI 0), .int s0]) bf159_67 bf159_68 rfl rfl).trans ?_
  rfl
theorem bk159_63 {w : am_Wd} {l0 : Nat} {l1 : Nat} {l2 : Int32} {l3 : Int32} {l4 : Int32} {l5 : Int32} {l6 : Int32} {s0 : Int32} : am_run 159 63 [some (.ref l0), some (.ref l1), some (.int l2), some (.int l3), some (.int l4), some (.int l5), some (.int l6), none, none] [.int s0] w = am_run 159 68 [some (.ref l0), some (.ref l1), some (.int l2), some (.int l3), some (.int l4), some (.int l5), some (.int l6), none, none] [.int (nI 1), .int s0] w := by
  refine (bu (ls'' := [some (.ref l0), some (.ref l1), some (.int l2), some (.int l3), some (.int l4), some (.int l5), some (.int l6), none, none]) (st' := [.int (nI 1), .int s0]) bf159_63 bf159_64 rfl rfl).trans ?_
  refine (bu (ls'' := [some (.ref l0), some (.ref l1), some (.int l2), some (.int l3), some (.int l4), some (.int l5), some (.int l6), none, none]) (st' := [.int (nI 1), .int s0]) bf159_64 bf159_68 rfl rfl).trans ?_
  rfl
theorem bk159_68 {w : am_Wd} {l0 : Nat} {l1 : Nat} {l2 : Int32} {l3 : Int32} {l4 : Int32} {l5 : Int32} {l6 : Int32} {s0 : Int32} {s1 : Int32} : am_run 159 68 [some (.ref l0), some (.ref l1), some (.int l2), some (.int l3), some (.int l4), some (.int l5), some (.int l6), none, none] [.int s0, .int s1] w = if ¬ s1 = s0 then am_run 159 75 [some (.ref l0), some (.ref l1), some (.int l2), some (.int l3), some (.int l4), some (.int l5), some (.int l6), none, none] [] w else am_run 159 71 [some (.ref l0), some (.ref l1), some (.int l2), some (.int l3), some (.int l4), some (.int l5), some (.int l6), none, none] [] w := by
  exact bic bf159_68 rfl bf159_75 bf159_71 rfl rfl rfl
theorem bk159_75 {w : am_Wd} {l0 : Nat} {l1 : Nat} {l2 : Int32} {l3 : Int32} {l4 : Int32} {l5 : Int32} {l6 : Int32} : am_run 159 75 [some (.ref l0), some (.ref l1), some (.int l2), some (.int l3), some (.int l4), some (.int l5), some (.int l6), none, none] [] w = am_run 159 76 [some (.ref l0), some (.ref l1), some (.int l2), some (.int l3), some (.int l4), some (.int l5), some (.int l6), none, none] [.int (nI 0)] w := by
  refine (bu (ls'' := [some (.ref l0), some (.ref l1), some (.int l2), some (.int l3), some (.int l4), some (.int l5), some (.int l6), none, none]) (st' := [.int (nI 0)]) bf159_75 bf159_76 rfl rfl).trans ?_
  rfl
theorem bk159_71 {w : am_Wd} {l0 : Nat} {l1 : Nat} {l2 : Int32} {l3 : Int32} {l4 : Int32} {l5 : Int32} {l6 : Int32} : am_run 159 71 [some (.ref l0), some (.ref l1), some (.int l2), some (.int l3), some (.int l4), some (.int l5), some (.int l6), none, none] [] w = am_run 159 76 [some (.ref l0), some (.ref l1), some (.int l2), some (.int l3), some (.int l4), some (.int l5), some (.int l6), none, none] [.int (nI 1)] w := by
  refine (bu (ls'' := [some (.ref l0), some (.ref l1), some (.int l2), some (.int l3), some (.int l4), some (.int l5), some (.int l6), none, none]) (st' := [.int (nI 1)]) bf159_71 bf159_72 rfl rfl).trans ?_
  refine (bu (ls'' := [some (.ref l0), some (.ref l1), some (.int l2), some (.int l3), some (.int l4), some (.int l5), some (.int l6), none, none]) (st' := [.int (nI 1)]) bf159_72 bf159_76 rfl rfl).trans ?_
  rfl
theorem bk159_76 {w : am_Wd} {l0 : Nat} {l1 : Nat} {l2 : Int32} {l3 : Int32} {l4 : Int32} {l5 : Int32} {l6 : Int32} {s0 : Int32} : am_run 159 76 [some (.ref l0), some (.ref l1), some (.int l2), some (.int l3), some (.int l4), some (.int l5), some (.int l6), none, none] [.int s0] w = if ¬ s0 = l2 then am_run 159 90 [some (.ref l0), some (.ref l1), some (.int l2), some (.int l3), none, some (.int l5), some (.int l6), none, none] [.int l4] w else am_run 159 86 [some (.ref l0), some (.ref l1), some (.int l2), some (.int l3), none, some (.int l5), some (.int l6), none, none] [.int l4] w := by
  refine (bu (ls'' := [some (.ref l0), some (.ref l1), some (.int l2), some (.int l3), some (.int l4), some (.int l5), some (.int l6), none, some (.int s0)]) (st' := []) bf159_76 bf159_78 rfl rfl).trans ?_
  refine (bu (ls'' := [some (.ref l0), some (.ref l1), some (.int l2), some (.int l3), none, some (.int l5), some (.int l6), none, some (.int s0)]) (st' := [.int l4]) bf159_78 bf159_80 rfl rfl).trans ?_
  refine (bu (ls'' := [some (.ref l0), some (.ref l1), some (.int l2), some (.int l3), none, some (.int l5), some (.int l6), none, none]) (st' := [.int s0, .int l4]) bf159_80 bf159_82 rfl rfl).trans ?_
  refine (bu (ls'' := [some (.ref l0), some (.ref l1), some (.int l2), some (.int l3), none, some (.int l5), some (.int l6), none, none]) (st' := [.int l2, .int s0, .int l4]) bf159_82 bf159_83 rfl rfl).trans ?_
  exact bic bf159_83 rfl bf159_90 bf159_86 rfl rfl rfl
theorem bk159_90 {w : am_Wd} {l0 : Nat} {l1 : Nat} {l2 : Int32} {l3 : Int32} {l5 : Int32} {l6 : Int32} {s0 : Int32} : am_run 159 90 [some (.ref l0), some (.ref l1), some (.int l2), some (.int l3), none, some (.int l5), some (.int l6), none, none] [.int s0] w = am_run 159 91 [some (.ref l0), some (.ref l1), some (.int l2), some (.int l3), none, some (.int l5), some (.int l6), none, none] [.int (nI 0), .int s0] w := by
  refine (bu (ls'' := [some (.ref l0), some (.ref l1), some (.int l2), some (.int l3), none, some (.int l5), some (.int l6), none, none]) (st' := [.int (nI 0), .int s0]) bf159_90 bf159_91 rfl rfl).trans ?_
  rfl
theorem bk159_86 {w : am_Wd} {l0 : Nat} {l1 : Nat} {l2 : Int32} {l3 : Int32} {l5 : Int32} {l6 : Int32} {s0 : Int32} : am_run 159 86 [some (.ref l0), some (.ref l1), some (.int l2), some (.int l3), none, some (.int l5), some (.int l6), none, none] [.int s0] w = am_run 159 91 [some (.ref l0), some (.ref l1), some (.int l2), some (.int l3), none, some (.int l5), some (.int l6), none, none] [.int (nI 1), .int s0] w := by
  refine (bu (ls'' := [some (.ref l0), some (.ref l1), some (.int l2), some (.int l3), none, some (.int l5), some (.int l6), none, none]) (st' := [.int (nI 1), .int s0]) bf159_86 bf159_87 rfl rfl).trans ?_
  refine (bu (ls'' := [some (.ref l0), some (.ref l1), some (.int l2), some (.int l3), none, some (.int l5), some (.int l6), none, none]) (st' := [.int (nI 1), .int s0]) bf159_87 bf159_91 rfl rfl).trans ?_
  rfl
theorem bk159_91 {w : am_Wd} {l0 : Nat} {l1 : Nat} {l2 : Int32} {l3 : Int32} {l5 : Int32} {l6 : Int32} {s0 : Int32} {s1 : Int32} : am_run 159 91 [some (.ref l0), some (.ref l1), some (.int l2), some (.int l3), none, some (.int l5), some (.int l6), none, none] [.int s0, .int s1] w = (am_x 26 [.int s0] w).bind fun r => bct r fun v w' => am_run 159 94 [some (.ref l0), some (.ref l1), some (.int l2), some (.int l3), none, some (.int l5), some (.int l6), none, none] (v.toList ++ [.int s1]) w' := by
  exact bkS bf159_91 bf159_94 rfl (by decide +kernel) (Nat.le_of_ble_eq_true rfl) rfl (bhd rfl)
theorem bk159_94 {w : am_Wd} {l0 : Nat} {l1 : Nat} {l2 : Int32} {l3 : Int32} {l5 : Int32} {l6 : Int32} {s0 : Int32} {s1 : Int32} : am_run 159 94 [some (.ref l0), some (.ref l1), some (.int l2), some (.int l3), none, some (.int l5), some (.int l6), none, none] [.int s0, .int s1] w = am_run 159 97 [some (.ref l0), some (.ref l1), some (.int l2), some (.int l3), some (.int (s1 + s0)), some (.int l5), some (.int l6), none, none] [] w := by
  refine (bu (ls'' := [some (.ref l0), some (.ref l1), some (.int l2), some (.int l3), none, some (.int l5), some (.int l6), none, none]) (st' := [.int (s1 + s0)]) bf159_94 bf159_95 rfl rfl).trans ?_
  refine (bu (ls'' := [some (.ref l0), some (.ref l1), some (.int l2), some (.int l3), some (.int (s1 + s0)), some (.int l5), some (.int l6), none, none]) (st' := []) bf159_95 bf159_97 rfl rfl).trans ?_
  rfl
theorem bf160_0 : am_fetch (am_mth 160) 0 = some (.aload_n 0, 1, [], [2]) := by decide +kernel
theorem bf160_1 : am_fetch (am_mth 160) 1 = some (.getfield 21, 3, [0, 6, 2, 304], [2]) := by decide +kernel
theorem bf160_4 : am_fetch (am_mth 160) 4 = some (.invokevirtual 64, 3, [0, 118, 0, 4, 500, 501, 502, 30], [2]) := by decide +kernel
theorem bf160_7 : am_fetch (am_mth 160) 7 = some (.istore_n 2, 1, [], [2]) := by decide +kernel
theorem bf160_8 : am_fetch (am_mth 160) 8 = some (.iload_n 2, 1, [], []) := by decide +kernel
theorem bf160_9 : am_fetch (am_mth 160) 9 = some (.iconst (-1), 1, [], []) := by decide +kernel
theorem bf160_10 : am_fetch (am_mth 160) 10 = some (.if_icmp .eq 17, 3, [], []) := by decide +kernel
theorem bf160_13 : am_fetch (am_mth 160) 13 = some (.aload_n 0, 1, [], []) := by decide +kernel
theorem bf160_14 : am_fetch (am_mth 160) 14 = some (.getfield 12, 3, [0, 6, 1, 302], []) := by decide +kernel
theorem bf160_17 : am_fetch (am_mth 160) 17 = some (.iload_n 2, 1, [], []) := by decide +kernel
theorem bf160_18 : am_fetch (am_mth 160) 18 = some (.iconst 4, 1, [], []) := by decide +kernel
theorem bf160_19 : am_fetch (am_mth 160) 19 = some (.idiv, 1, [], []) := by decide +kernel
theorem bf160_20 : am_fetch (am_mth 160) 20 = some (.iload_n 2, 1, [], []) := by decide +kernel
theorem bf160_21 : am_fetch (am_mth 160) 21 = some (.iconst 4, 1, [], [2]) := by decide +kernel
theorem bf160_22 : am_fetch (am_mth 160) 22 = some (.irem, 1, [], [2]) := by decide +kernel
theorem bf160_23 : am_fetch (am_mth 160) 23 = some (.iload_n 1, 1, [], [2]) := by decide +kernel
theorem bf160_24 : am_fetch (am_mth 160) 24 = some (.invokevirtual 67, 3, [0, 82, 3, 7, 624, 625, 626, 29], [2]) := by decide +kernel
theorem bf160_27 : am_fetch (am_mth 160) 27 = some (.aload_n 0, 1, [], [2]) := by decide +kernel
theorem bf160_28 : am_fetch (am_mth 160) 28 = some (.getfield 21, 3, [0, 6, 2, 304], [2]) := by decide +kernel
theorem bf160_31 : am_fetch (am_mth 160) 31 = some (.iload_n 1, 1, [], [2]) := by decide +kernel
theorem bf160_32 : am_fetch (am_mth 160) 32 = some (.aload_n 0, 1, [], [1, 2]) := by decide +kernel
theorem bf160_33 : am_fetch (am_mth 160) 33 = some (.getfield 12, 3, [0, 6, 1, 302], [1, 2]) := by decide +kernel
theorem bf160_36 : am_fetch (am_mth 160) 36 = some (.invokevirtual 71, 3, [0, 119, 2, 4, 633, 634, 635, 30], [1, 2]) := by decide +kernel
theorem bf160_39 : am_fetch (am_mth 160) 39 = some (.aload_n 0, 1, [], [1, 2]) := by decide +kernel
theorem bf160_40 : am_fetch (am_mth 160) 40 = some (.invokevirtual 75, 3, [0, 129, 0, 6, 637, 639, 14, 28], [0, 1, 2]) := by decide +kernel
theorem bf160_43 : am_fetch (am_mth 160) 43 = some (.return_, 1, [], [0, 1, 2]) := by decide +kernel
theorem bk160_0 {w : am_Wd} {l0 : Nat} {l1 : Int32} : am_run 160 0 [some (.ref l0), some (.int l1), none] [] w = (am_gf w l0 6 2).bind fun v => am_run 160 4 [some (.ref l0), some (.int l1), none] (v :: []) w := by
  refine (bu (ls'' := [some (.ref l0), some (.int l1), none]) (st' := [.ref l0]) bf160_0 bf160_1 rfl rfl).trans ?_
  exact bh bf160_1 bf160_4 rfl (fun _ _ => am_ge_rf w) rfl
theorem bk160_4 {w : am_Wd} {l0 : Nat} {l1 : Int32} {s0 : Nat} : am_run 160 4 [some (.ref l0), some (.int l1), none] [.ref s0] w = (am_kf w s0 4).bind fun _ => (am_x 118 [.ref s0] w).bind fun r => bct r fun v w' => am_run 160 7 [some (.ref l0), some (.int l1), none] (v.toList ++ []) w' := by
  exact bkV bf160_4 bf160_7 rfl (by decide +kernel) (Nat.le_of_ble_eq_true rfl) rfl (bhd rfl)
theorem bk160_7 {w : am_Wd} {l0 : Nat} {l1 : Int32} {s0 : Int32} : am_run 160 7 [some (.ref l0), some (.int l1), none] [.int s0] w = if s0 = (-1 : Int32) then am_run 160 27 [some (.ref l0), some (.int l1), none] [] w else am_run 160 13 [some (.ref l0), some (.int l1), some (.int s0)] [] w := by
  refine (bu (ls'' := [some (.ref l0), some (.int l1), some (.int s0)]) (st' := []) bf160_7 bf160_8 rfl rfl).trans ?_
  refine (bu (ls'' := [some (.ref l0), some (.int l1), some (.int s0)]) (st' := [.int s0]) bf160_8 bf160_9 rfl rfl).trans ?_
  refine (bu (ls'' := [some (.ref l0), some (.int l1), some (.int s0)]) (st' := [.int (-1 : Int32), .int s0]) bf160_9 bf160_10 rfl rfl).trans ?_
  exact bic bf160_10 rfl bf160_27 bf160_13 rfl rfl rfl
theorem bk160_27 {w : am_Wd} {l0 : Nat} {l1 : Int32} : am_run 160 27 [some (.ref l0), some (.int l1), none] [] w = (am_gf w l0 6 2).bind fun v => am_run 160 31 [some (.ref l0), some (.int l1), none] (v :: []) w := by
  refine (bu (ls'' := [some (.ref l0), some (.int l1), none]) (st' := [.ref l0]) bf160_27 bf160_28 rfl rfl).trans ?_
  exact bh bf160_28 bf160_31 rfl (fun _ _ => am_ge_rf w) rfl
theorem bk160_13 {w : am_Wd} {l0 : Nat} {l1 : Int32} {l2 : Int32} : am_run 160 13 [some (.ref l0), some (.int l1), some (.int l2)] [] w = (am_gf w l0 6 1).bind fun v => am_run 160 17 [some (.ref l0), some (.int l1), some (.int l2)] (v :: []) w := by
  refine (bu (ls'' := [some (.ref l0), some (.int l1), some (.int l2)]) (st' := [.ref l0]) bf160_13 bf160_14 rfl rfl).trans ?_
  exact bh bf160_14 bf160_17 rfl (fun _ _ => am_ge_rf w) rfl
theorem bk160_31 {w : am_Wd} {l0 : Nat} {l1 : Int32} {s0 : Nat} : am_run 160 31 [some (.ref l0), some (.int l1), none] [.ref s0] w = (am_gf w l0 6 1).bind fun v => am_run 160 36 [some (.ref l0), none, none] (v :: [.int l1, .ref s0]) w := by
  refine (bu (ls'' := [some (.ref l0), none, none]) (st' := [.int l1, .ref s0]) bf160_31 bf160_32 rfl rfl).trans ?_
  refine (bu (ls'' := [some (.ref l0), none, none]) (st' := [.ref l0, .int l1, .ref s0]) bf160_32 bf160_33 rfl rfl).trans ?_
  exact bh bf160_33 bf160_36 rfl (fun _ _ => am_ge_rf w) rfl
theorem bk160_17 {w : am_Wd} {l0 : Nat} {l1 : Int32} {l2 : Int32} {s0 : Nat} : am_run 160 17 [some (.ref l0), some (.int l1), some (.int l2)] [.ref s0] w = (am_kf w s0 7).bind fun _ => (am_x 82 [.ref s0, .int (l2 / (nI 4)), .int (bj_irem l2 (nI 4)), .int l1] w).bind fun r => bct r fun v w' => am_run 160 27 [some (.ref l0), some (.int l1), none] (v.toList ++ []) w' := by
  refine (bu (ls'' := [some (.ref l0), some (.int l1), some (.int l2)]) (st' := [.int l2, .ref s0]) bf160_17 bf160_18 rfl rfl).trans ?_
  refine (bu (ls'' := [some (.ref l0), some (.int l1), some (.int l2)]) (st' := [.int (nI 4), .int l2, .ref s0]) bf160_18 bf160_19 rfl rfl).trans ?_
  refine (bu (ls'' := [some (.ref l0), some (.int l1), some (.int l2)]) (st' := [.int (l2 / (nI 4)), .ref s0]) bf160_19 bf160_20 rfl rfl).trans ?_
  refine (bu (ls'' := [some (.ref l0), some (.int l1), none]) (st' := [.int l2, .int (l2 / (nI 4)), .ref s0]) bf160_20 bf160_21 rfl rfl).trans ?_
  refine (bu (ls'' := [some (.ref l0), some (.int l1), none]) (st' := [.int (nI 4), .int l2, .int (l2 / (nI 4)), .ref s0]) bf160_21 bf160_22 rfl rfl).trans ?_
  refine (bu (ls'' := [some (.ref l0), some (.int l1), none]) (st' := [.int (bj_irem l2 (nI 4)), .int (l2 / (nI 4)), .ref s0]) bf160_22 bf160_23 rfl rfl).trans ?_
  refine (bu (ls'' := [some (.ref l0), some (.int l1), none]) (st' := [.int l1, .int (bj_irem l2 (nI 4)), .int (l2 / (nI 4)), .ref s0]) bf160_23 bf160_24 rfl rfl).trans ?_
  exact bkV bf160_24 bf160_27 rfl (by decide +kernel) (Nat.le_of_ble_eq_true rfl) rfl (bhd rfl)
theorem bk160_36 {w : am_Wd} {l0 : Nat} {s0 : Nat} {s1 : Int32} {s2 : Nat} : am_run 160 36 [some (.ref l0), none, none] [.ref s0, .int s1, .ref s2] w = (am_kf w s2 4).bind fun _ => (am_x 119 [.ref s2, .int s1, .ref s0] w).bind fun r => bct r fun v w' => am_run 160 39 [some (.ref l0), none, none] (v.toList ++ []) w' := by
  exact bkV bf160_36 bf160_39 rfl (by decide +kernel) (Nat.le_of_ble_eq_true rfl) rfl (bhd rfl)
theorem bk160_39 {w : am_Wd} {l0 : Nat} : am_run 160 39 [some (.ref l0), none, none] [] w = (am_kf w l0 6).bind fun _ => (am_x 129 [.ref l0] w).bind fun r => bct r fun v w' => am_run 160 43 [none, none, none] (v.toList ++ []) w' := by
  refine (bu (ls'' := [none, none, none]) (st' := [.ref l0]) bf160_39 bf160_40 rfl rfl).trans ?_
  exact bkV bf160_40 bf160_43 rfl (by decide +kernel) (Nat.le_of_ble_eq_true rfl) rfl (bhd rfl)
theorem bk160_43 {w : am_Wd}  : am_run 160 43 [none, none, none] [] w = some (.inl none, w) := by
  exact am_e2 bf160_43 rfl (am_ge_rf w)
theorem bf161_0 : am_fetch (am_mth 161) 0 = some (.aload_n 0, 1, [], [2, 3]) := by decide +kernel
theorem bf161_1 : am_fetch (am_mth 161) 1 = some (.getfield 21, 3, [0, 6, 2, 304], [2, 3]) := by decide +kernel
theorem bf161_4 : am_fetch (am_mth 161) 4 = some (.invokevirtual 64, 3, [0, 118, 0, 4, 500, 501, 502, 30], [2, 3]) := by decide +kernel
theorem bf161_7 : am_fetch (am_mth 161) 7 = some (.istore_n 2, 1, [], [2, 3]) := by decide +kernel
theorem bf161_8 : am_fetch (am_mth 161) 8 = some (.iload_n 2, 1, [], [3]) := by decide +kernel
theorem bf161_9 : am_fetch (am_mth 161) 9 = some (.iconst (-1), 1, [], [3]) := by decide +kernel
theorem bf161_10 : am_fetch (am_mth 161) 10 = some (.if_icmp .eq 46, 3, [], [3]) := by decide +kernel
theorem bf161_13 : am_fetch (am_mth 161) 13 = some (.iconst 0, 1, [], [3]) := by decide +kernel
theorem bf161_14 : am_fetch (am_mth 161) 14 = some (.istore_n 3, 1, [], [3]) := by decide +kernel
theorem bf161_15 : am_fetch (am_mth 161) 15 = some (.iload_n 3, 1, [], []) := by decide +kernel
theorem bf161_16 : am_fetch (am_mth 161) 16 = some (.iconst 3, 1, [], []) := by decide +kernel
theorem bf161_17 : am_fetch (am_mth 161) 17 = some (.if_icmp .ge 39, 3, [], []) := by decide +kernel
theorem bf161_20 : am_fetch (am_mth 161) 20 = some (.aload_n 0, 1, [], []) := by decide +kernel
theorem bf161_21 : am_fetch (am_mth 161) 21 = some (.getfield 12, 3, [0, 6, 1, 302], []) := by decide +kernel
theorem bf161_24 : am_fetch (am_mth 161) 24 = some (.iload_n 2, 1, [], []) := by decide +kernel
theorem bf161_25 : am_fetch (am_mth 161) 25 = some (.iconst 4, 1, [], []) := by decide +kernel
theorem bf161_26 : am_fetch (am_mth 161) 26 = some (.idiv, 1, [], []) := by decide +kernel
theorem bf161_27 : am_fetch (am_mth 161) 27 = some (.iload_n 2, 1, [], []) := by decide +kernel
theorem bf161_28 : am_fetch (am_mth 161) 28 = some (.iconst 4, 1, [], []) := by decide +kernel
theorem bf161_29 : am_fetch (am_mth 161) 29 = some (.irem, 1, [], []) := by decide +kernel
theorem bf161_30 : am_fetch (am_mth 161) 30 = some (.iload_n 3, 1, [], []) := by decide +kernel
theorem bf161_31 : am_fetch (am_mth 161) 31 = some (.invokestatic 78, 3, [0, 15, 2, 675, 453, 23], []) := by decide +kernel
theorem bf161_34 : am_fetch (am_mth 161) 34 = some (.iload_n 1, 1, [], []) := by decide +kernel
theorem bf161_35 : am_fetch (am_mth 161) 35 = some (.iload_n 3, 1, [], []) := by decide +kernel
theorem bf161_36 : am_fetch (am_mth 161) 36 = some (.iushr, 1, [], []) := by decide +kernel
theorem bf161_37 : am_fetch (am_mth 161) 37 = some (.iconst 1, 1, [], []) := by decide +kernel
theorem bf161_38 : am_fetch (am_mth 161) 38 = some (.iand, 1, [], []) := by decide +kernel
theorem bf161_39 : am_fetch (am_mth 161) 39 = some (.ifCond .eq 7, 3, [], []) := by decide +kernel
theorem bf161_42 : am_fetch (am_mth 161) 42 = some (.iconst 1, 1, [], []) := by decide +kernel
theorem bf161_43 : am_fetch (am_mth 161) 43 = some (.goto 4, 3, [], []) := by decide +kernel
theorem bf161_46 : am_fetch (am_mth 161) 46 = some (.iconst 0, 1, [], []) := by decide +kernel
theorem bf161_47 : am_fetch (am_mth 161) 47 = some (.invokevirtual 67, 3, [0, 82, 3, 7, 624, 625, 626, 29], []) := by decide +kernel
theorem bf161_50 : am_fetch (am_mth 161) 50 = some (.iinc 3 1, 3, [], []) := by decide +kernel
theorem bf161_53 : am_fetch (am_mth 161) 53 = some (.goto (-38), 3, [], []) := by decide +kernel
theorem bf161_56 : am_fetch (am_mth 161) 56 = some (.aload_n 0, 1, [], [2, 3]) := by decide +kernel
theorem bf161_57 : am_fetch (am_mth 161) 57 = some (.getfield 21, 3, [0, 6, 2, 304], [2, 3]) := by decide +kernel
theorem bf161_60 : am_fetch (am_mth 161) 60 = some (.iload_n 1, 1, [], [2, 3]) := by decide +kernel
theorem bf161_61 : am_fetch (am_mth 161) 61 = some (.aload_n 0, 1, [], [1, 2, 3]) := by decide +kernel
theorem bf161_62 : am_fetch (am_mth 161) 62 = some (.getfield 12, 3, [0, 6, 1, 302], [1, 2, 3]) := by decide +kernel
theorem bf161_65 : am_fetch (am_mth 161) 65 = some (.invokevirtual 81, 3, [0, 120, 2, 4, 676, 677, 678, 30], [1, 2, 3]) := by decide +kernel
theorem bf161_68 : am_fetch (am_mth 161) 68 = some (.aload_n 0, 1, [], [1, 2, 3]) := by decide +kernel
theorem bf161_69 : am_fetch (am_mth 161) 69 = some (.invokevirtual 75, 3, [0, 129, 0, 6, 637, 639, 14, 28], [0, 1, 2, 3]) := by decide +kernel
theorem bf161_72 : am_fetch (am_mth 161) 72 = some (.return_, 1, [], [0, 1, 2, 3]) := by decide +kernel
theorem bk161_0 {w : am_Wd} {l0 : Nat} {l1 : Int32} : am_run 161 0 [some (.ref l0), some (.int l1), none, none] [] w = (am_gf w l0 6 2).bind fun v => am_run 161 4 [some (.ref l0), some (.int l1), none, none] (v :: []) w := by
  refine (bu (ls'' := [some (.ref l0), some (.int l1), none, none]) (st' := [.ref l0]) bf161_0 bf161_1 rfl rfl).trans ?_
  exact bh bf161_1 bf161_4 rfl (fun _ _ => am_ge_rf w) rfl
theorem bk161_4 {w : am_Wd} {l0 : Nat} {l1 : Int32} {s0 : Nat} : am_run 161 4 [some (.ref l0), some (.int l1), none, none] [.ref s0] w = (am_kf w s0 4).bind fun _ => (am_x 118 [.ref s0] w).bind fun r => bct r fun v w' => am_run 161 7 [some (.ref l0), some (.int l1), none, none] (v.toList ++ []) w' := by
  exact bkV bf161_4 bf161_7 rfl (by decide +kernel) (Nat.le_of_ble_eq_true rfl) rfl (bhd rfl)
theorem bk161_7 {w : am_Wd} {l0 : Nat} {l1 : Int32} {s0 : Int32} : am_run 161 7 [some (.ref l0), some (.int l1), none, none] [.int s0] w = if s0 = (-1 : Int32) then am_run 161 56 [some (.ref l0), some (.int l1), none, none] [] w else am_run 161 13 [some (.ref l0), some (.int l1), some (.int s0), none] [] w := by
  refine (bu (ls'' := [some (.ref l0), some (.int l1), some (.int s0), none]) (st' := []) bf161_7 bf161_8 rfl rfl).trans ?_
  refine (bu (ls'' := [some (.ref l0), some (.int l1), some (.int s0), none]) (st' := [.int s0]) bf161_8 bf161_9 rfl rfl).trans ?_
  refine (bu (ls'' := [some (.ref l0), some (.int l1), some (.int s0), none]) (st' := [.int (-1 : Int32), .int s0]) bf161_9 bf161_10 rfl rfl).trans ?_
  exact bic bf161_10 rfl bf161_56 bf161_13 rfl rfl rfl
theorem bk161_56 {w : am_Wd} {l0 : Nat} {l1 : Int32} : am_run 161 56 [some (.ref l0), some (.int l1), none, none] [] w = (am_gf w l0 6 2).bind fun v => am_run 161 60 [some (.ref l0), some (.int l1), none, none] (v :: []) w := by
  refine (bu (ls'' := [some (.ref l0), some (.int l1), none, none]) (st' := [.ref l0]) bf161_56 bf161_57 rfl rfl).trans ?_
  exact bh bf161_57 bf161_60 rfl (fun _ _ => am_ge_rf w) rfl
theorem bk161_13 {w : am_Wd} {l0 : Nat} {l1 : Int32} {l2 : Int32} : am_run 161 13 [some (.ref l0), some (.int l1), some (.int l2), none] [] w = am_run 161 15 [some (.ref l0), some (.int l1), some (.int l2), some (.int (nI 0))] [] w := by
  refine (bu (ls'' := [some (.ref l0), some (.int l1), some (.int l2), none]) (st' := [.int (nI 0)]) bf161_13 bf161_14 rfl rfl).trans ?_
  refine (bu (ls'' := [some (.ref l0), some (.int l1), some (.int l2), some (.int (nI 0))]) (st' := []) bf161_14 bf161_15 rfl rfl).trans ?_
  rfl
theorem bk161_60 {w : am_Wd} {l0 : Nat} {l1 : Int32} {s0 : Nat} : am_run 161 60 [some (.ref l0), some (.int l1), none, none] [.ref s0] w = (am_gf w l0 6 1).bind fun v => am_run 161 65 [some (.ref l0), none, none, none] (v :: [.int l1, .ref s0]) w := by
  refine (bu (ls'' := [some (.ref l0), none, none, none]) (st' := [.int l1, .ref s0]) bf161_60 bf161_61 rfl rfl).trans ?_
  refine (bu (ls'' := [some (.ref l0), none, none, none]) (st' := [.ref l0, .int l1, .ref s0]) bf161_61 bf161_62 rfl rfl).trans ?_
  exact bh bf161_62 bf161_65 rfl (fun _ _ => am_ge_rf w) rfl
theorem bk161_15 {w : am_Wd} {l0 : Nat} {l1 : Int32} {l2 : Int32} {l3 : Int32} : am_run 161 15 [some (.ref l0), some (.int l1), some (.int l2), some (.int l3)] [] w = if (nI 3) ≤ l3 then am_run 161 56 [some (.ref l0), some (.int l1), none, none] [] w else am_run 161 20 [some (.ref l0), some (.int l1), some (.int l2), some (.int l3)] [] w := by
  refine (bu (ls'' := [some (.ref l0), some (.int l1), some (.int l2), some (.int l3)]) (st' := [.int l3]) bf161_15 bf161_16 rfl rfl).trans ?_
  refine (bu (ls'' := [some (.ref l0), some (.int l1), some (.int l2), some (.int l3)]) (st' := [.int (nI 3), .int l3]) bf161_16 bf161_17 rfl rfl).trans ?_
  exact bic bf161_17 rfl bf161_56 bf161_20 rfl rfl rfl
theorem bk161_65 {w : am_Wd} {l0 : Nat} {s0 : Nat} {s1 : Int32} {s2 : Nat} : am_run 161 65 [some (.ref l0), none, none, none] [.ref s0, .int s1, .ref s2] w = (am_kf w s2 4).bind fun _ => (am_x 120 [.ref s2, .int s1, .ref s0] w).bind fun r => bct r fun v w' => am_run 161 68 [some (.ref l0), none, none, none] (v.toList ++ []) w' := by
  exact bkV bf161_65 bf161_68 rfl (by decide +kernel) (Nat.le_of_ble_eq_true rfl) rfl (bhd rfl)
theorem bk161_20 {w : am_Wd} {l0 : Nat} {l1 : Int32} {l2 : Int32} {l3 : Int32} : am_run 161 20 [some (.ref l0), some (.int l1), some (.int l2), some (.int l3)] [] w = (am_gf w l0 6 1).bind fun v => am_run 161 24 [some (.ref l0), some (.int l1), some (.int l2), some (.int l3)] (v :: []) w := by
  refine (bu (ls'' := [some (.ref l0), some (.int l1), some (.int l2), some (.int l3)]) (st' := [.ref l0]) bf161_20 bf161_21 rfl rfl).trans ?_
  exact bh bf161_21 bf161_24 rfl (fun _ _ => am_ge_rf w) rfl
theorem bk161_68 {w : am_Wd} {l0 : Nat} : am_run 161 68 [some (.ref l0), none, none, none] [] w = (am_kf w l0 6).bind fun _ => (am_x 129 [.ref l0] w).bind fun r => bct r fun v w' => am_run 161 72 [none, none, none, none] (v.toList ++ []) w' := by
  refine (bu (ls'' := [none, none, none, none]) (st' := [.ref l0]) bf161_68 bf161_69 rfl rfl).trans ?_
  exact bkV bf161_69 bf161_72 rfl (by decide +kernel) (Nat.le_of_ble_eq_true rfl) rfl (bhd rfl)
theorem bk161_24 {w : am_Wd} {l0 : Nat} {l1 : Int32} {l2 : Int32} {l3 : Int32} {s0 : Nat} : am_run 161 24 [some (.ref l0), some (.int l1), some (.int l2), some (.int l3)] [.ref s0] w = (am_x 15 [.int (bj_irem l2 (nI 4)), .int l3] w).bind fun r => bct r fun v w' => am_run 161 34 [some (.ref l0), some (.int l1), some (.int l2), some (.int l3)] (v.toList ++ [.int (l2 / (nI 4)), .ref s0]) w' := by
  refine (bu (ls'' := [some (.ref l0), some (.int l1), some (.int l2), some (.int l3)]) (st' := [.int l2, .ref s0]) bf161_24 bf161_25 rfl rfl).trans ?_
  refine (bu (ls'' := [some (.ref l0), some (.int l1), some (.int l2), some (.int l3)]) (st' := [.int (nI 4), .int l2, .ref s0]) bf161_25 bf161_26 rfl rfl).trans ?_
  refine (bu (ls'' := [some (.ref l0), some (.int l1), some (.int l2), some (.int l3)]) (st' := [.int (l2 / (nI 4)), .ref s0]) bf161_26 bf161_27 rfl rfl).trans ?_
  refine (bu (ls'' := [some (.ref l0), some (.int l1), some (.int l2), some (.int l3)]) (st' := [.int l2, .int (l2 / (nI 4)), .ref s0]) bf161_27 bf161_28 rfl rfl).trans ?_
  refine (bu (ls'' := [some (.ref l0), some (.int l1), some (.int l2), some (.int l3)]) (st' := [.int (nI 4), .int l2, .int (l2 / (nI 4)), .ref s0]) bf161_28 bf161_29 rfl rfl).trans ?_
  refine (bu (ls'' := [some (.ref l0), some (.int l1), some (.int l2), some (.int l3)]) (st' := [.int (bj_irem l2 (nI 4)), .int (l2 / (nI 4)), .ref s0]) bf161_29 bf161_30 rfl rfl).trans ?_
  refine (bu (ls'' := [some (.ref l0), some (.int l1), some (.int l2), some (.int l3)]) (st' := [.int l3, .int (bj_irem l2 (nI 4)), .int (l2 / (nI 4)), .ref s0]) bf161_30 bf161_31 rfl rfl).trans ?_
  exact bkS bf161_31 bf161_34 rfl (by decide +kernel) (Nat.le_of_ble_eq_true rfl) rfl (bhd rfl)
theorem bk161_72 {w : am_Wd}  : am_run 161 72 [none, none, none, none] [] w = some (.inl none, w) := by
  exact am_e2 bf161_72 rfl (am_ge_rf w)
theorem bk161_34 {w : am_Wd} {l0 : Nat} {l1 : Int32} {l2 : Int32} {l3 : Int32} {s0 : Int32} {s1 : Int32} {s2 : Nat} : am_run 161 34 [some (.ref l0), some (.int l1), some (.int l2), some (.int l3)] [.int s0, .int s1, .ref s2] w = if ((bj_iushr l1 l3) &&& (nI 1)) = nI 0 then am_run 161 46 [some (.ref l0), some (.int l1), some (.int l2), some (.int l3)] [.int s0, .int s1, .ref s2] w else am_run 161 42 [some (.ref l0), some (.int l1), some (.int l2), some (.int l3)] [.int s0, .int s1, .ref s2] w := by
  refine (bu (ls'' := [some (.ref l0), some (.int l1), some (.int l2), some (.int l3)]) (st' := [.int l1, .int s0, .int s1, .ref s2]) bf161_34 bf161_35 rfl rfl).trans ?_
  refine (bu (ls'' := [some (.ref l0), some (.int l1), some (.int l2), some (.int l3)]) (st' := [.int l3, .int l1, .int s0, .int s1, .ref s2]) bf161_35 bf161_36 rfl rfl).trans ?_
  refine (bu (ls'' := [some (.ref l0), some (.int l1), some (.int l2), some (.int l3)]) (st' := [.int (bj_iushr l1 l3), .int s0, .int s1, .ref s2]) bf161_36 bf161_37 rfl rfl).trans ?_
  refine (bu (ls'' := [some (.ref l0), some (.int l1), some (.int l2), some (.int l3)]) (st' := [.int (nI 1), .int (bj_iushr l1 l3), .int s0, .int s1, .ref s2]) bf161_37 bf161_38 rfl rfl).trans ?_
  refine (bu (ls'' := [some (.ref l0), some (.int l1), some (.int l2), some (.int l3)]) (st' := [.int ((bj_iushr l1 l3) &&& (nI 1)), .int s0, .int s1, .ref s2]) bf161_38 bf161_39 rfl rfl).trans ?_
  exact bifc bf161_39 rfl bf161_46 bf161_42 rfl rfl rfl
theorem bk161_46 {w : am_Wd} {l0 : Nat} {l1 : Int32} {l2 : Int32} {l3 : Int32} {s0 : Int32} {s1 : Int32} {s2 : Nat} : am_run 161 46 [some (.ref l0), some (.int l1), some (.int l2), some (.int l3)] [.int s0, .int s1, .ref s2] w = am_run 161 47 [some (.ref l0), some (.int l1), some (.int l2), some (.int l3)] [.int (nI 0), .int s0, .int s1, .ref s2] w := by
  refine (bu (ls'' := [some (.ref l0), some (.int l1), some (.int l2), some (.int l3)]) (st' := [.int (nI 0), .int s0, .int s1, .ref s2]) bf161_46 bf161_47 rfl rfl).trans ?_
  rfl
theorem bk161_42 {w : am_Wd} {l0 : Nat} {l1 : Int32} {l2 : Int32} {l3 : Int32} {s0 : Int32} {s1 : Int32} {s2 : Nat} : am_run 161 42 [some (.ref l0), some (.int l1), some (.int l2), some (.int l3)] [.int s0, .int s1, .ref s2] w = am_run 161 47 [some (.ref l0), some (.int l1), some (.int l2), some (.int l3)] [.int (nI 1), .int s0, .int s1, .ref s2] w := by
  refine (bu (ls'' := [some (.ref l0), some (.int l1), some (.int l2), some (.int l3)]) (st' := [.int (nI 1), .int s0, .int s1, .ref s2]) bf161_42 bf161_43 rfl rfl).trans ?_
  refine (bu (ls'' := [some (.ref l0), some (.int l1), some (.int l2), some (.int l3)]) (st' := [.int (nI 1), .int s0, .int s1, .ref s2]) bf161_43 bf161_47 rfl rfl).trans ?_
  rfl
theorem bk161_47 {w : am_Wd} {l0 : Nat} {l1 : Int32} {l2 : Int32} {l3 : Int32} {s0 : Int32} {s1 : Int32} {s2 : Int32} {s3 : Nat} : am_run 161 47 [some (.ref l0), some (.int l1), some (.int l2), some (.int l3)] [.int s0, .int s1, .int s2, .ref s3] w = (am_kf w s3 7).bind fun _ => (am_x 82 [.ref s3, .int s2, .int s1, .int s0] w).bind fun r => bct r fun v w' => am_run 161 50 [some (.ref l0), some (.int l1), some (.int l2), some (.int l3)] (v.toList ++ []) w' := by
  exact bkV bf161_47 bf161_50 rfl (by decide +kernel) (Nat.le_of_ble_eq_true rfl) rfl (bhd rfl)
theorem bk161_50 {w : am_Wd} {l0 : Nat} {l1 : Int32} {l2 : Int32} {l3 : Int32} : am_run 161 50 [some (.ref l0), some (.int l1), some (.int l2), some (.int l3)] [] w = am_run 161 15 [some (.ref l0), some (.int l1), some (.int l2), some (.int (l3 + (nI 1)))] [] w := by
  refine (bu (ls'' := [some (.ref l0), some (.int l1), some (.int l2), some (.int (l3 + (nI 1)))]) (st' := []) bf161_50 bf161_53 rfl rfl).trans ?_
  refine (bu (ls'' := [some (.ref l0), some (.int l1), some (.int l2), some (.int (l3 + (nI 1)))]) (st' := []) bf161_53 bf161_15 rfl rfl).trans ?_
  rfl
theorem bf162_0 : am_fetch (am_mth 162) 0 = some (.aload_n 0, 1, [], [1]) := by decide +kernel
theorem bf162_1 : am_fetch (am_mth 162) 1 = some (.getfield 21, 3, [0, 6, 2, 304], [1]) := by decide +kernel
theorem bf162_4 : am_fetch (am_mth 162) 4 = some (.invokevirtual 64, 3, [0, 118, 0, 4, 500, 501, 502, 30], [1]) := by decide +kernel
theorem bf162_7 : am_fetch (am_mth 162) 7 = some (.istore_n 1, 1, [], [1]) := by decide +kernel
theorem bf162_8 : am_fetch (am_mth 162) 8 = some (.iload_n 1, 1, [], []) := by decide +kernel
theorem bf162_9 : am_fetch (am_mth 162) 9 = some (.iconst (-1), 1, [], []) := by decide +kernel
theorem bf162_10 : am_fetch (am_mth 162) 10 = some (.if_icmp .ne 8, 3, [], []) := by decide +kernel
theorem bf162_13 : am_fetch (am_mth 162) 13 = some (.bipush (-2), 2, [], [0, 1]) := by decide +kernel
theorem bf162_15 : am_fetch (am_mth 162) 15 = some (.goto 17, 3, [], [0, 1]) := by decide +kernel
theorem bf162_18 : am_fetch (am_mth 162) 18 = some (.aload_n 0, 1, [], []) := by decide +kernel
theorem bf162_19 : am_fetch (am_mth 162) 19 = some (.getfield 12, 3, [0, 6, 1, 302], []) := by decide +kernel
theorem bf162_22 : am_fetch (am_mth 162) 22 = some (.iload_n 1, 1, [], []) := by decide +kernel
theorem bf162_23 : am_fetch (am_mth 162) 23 = some (.iconst 4, 1, [], [1]) := by decide +kernel
theorem bf162_24 : am_fetch (am_mth 162) 24 = some (.idiv, 1, [], [1]) := by decide +kernel
theorem bf162_25 : am_fetch (am_mth 162) 25 = some (.aload_n 0, 1, [], [1]) := by decide +kernel
theorem bf162_26 : am_fetch (am_mth 162) 26 = some (.getfield 25, 3, [0, 6, 0, 301], [0, 1]) := by decide +kernel
theorem bf162_29 : am_fetch (am_mth 162) 29 = some (.invokevirtual 88, 3, [0, 87, 2, 7, 506, 409, 410, 29], [0, 1]) := by decide +kernel
theorem bf162_32 : am_fetch (am_mth 162) 32 = some (.ireturn, 1, [0], [0, 1]) := by decide +kernel
theorem bk162_0 {w : am_Wd} {l0 : Nat} : am_run 162 0 [some (.ref l0), none] [] w = (am_gf w l0 6 2).bind fun v => am_run 162 4 [some (.ref l0), none] (v :: []) w := by
  refine (bu (ls'' := [some (.ref l0), none]) (st' := [.ref l0]) bf162_0 bf162_1 rfl rfl).trans ?_
  exact bh bf162_1 bf162_4 rfl (fun _ _ => am_ge_rf w) rfl
theorem bk162_4 {w : am_Wd} {l0 : Nat} {s0 : Nat} : am_run 162 4 [some (.ref l0), none] [.ref s0] w = (am_kf w s0 4).bind fun _ => (am_x 118 [.ref s0] w).bind fun r => bct r fun v w' => am_run 162 7 [some (.ref l0), none] (v.toList ++ []) w' := by
  exact bkV bf162_4 bf162_7 rfl (by decide +kernel) (Nat.le_of_ble_eq_true rfl) rfl (bhd rfl)
theorem bk162_7 {w : am_Wd} {l0 : Nat} {s0 : Int32} : am_run 162 7 [some (.ref l0), none] [.int s0] w = if ¬ s0 = (-1 : Int32) then am_run 162 18 [some (.ref l0), some (.int s0)] [] w else am_run 162 13 [none, none] [] w := by
  refine (bu (ls'' := [some (.ref l0), some (.int s0)]) (st' := []) bf162_7 bf162_8 rfl rfl).trans ?_
  refine (bu (ls'' := [some (.ref l0), some (.int s0)]) (st' := [.int s0]) bf162_8 bf162_9 rfl rfl).trans ?_
  refine (bu (ls'' := [some (.ref l0), some (.int s0)]) (st' := [.int (-1 : Int32), .int s0]) bf162_9 bf162_10 rfl rfl).trans ?_
  exact bic bf162_10 rfl bf162_18 bf162_13 rfl rfl rfl
theorem bk162_18 {w : am_Wd} {l0 : Nat} {l1 : Int32} : am_run 162 18 [some (.ref l0), some (.int l1)] [] w = (am_gf w l0 6 1).bind fun v => am_run 162 22 [some (.ref l0), some (.int l1)] (v :: []) w := by
  refine (bu (ls'' := [some (.ref l0), some (.int l1)]) (st' := [.ref l0]) bf162_18 bf162_19 rfl rfl).trans ?_
  exact bh bf162_19 bf162_22 rfl (fun _ _ => am_ge_rf w) rfl
theorem bk162_13 {w : am_Wd}  : am_run 162 13 [none, none] [] w = am_run 162 32 [none, none] [.int (-2 : Int32)] w := by
  refine (bu (ls'' := [none, none]) (st' := [.int (-2 : Int32)]) bf162_13 bf162_15 rfl rfl).trans ?_
  refine (bu (ls'' := [none, none]) (st' := [.int (-2 : Int32)]) bf162_15 bf162_32 rfl rfl).trans ?_
  rfl
theorem bk162_22 {w : am_Wd} {l0 : Nat} {l1 : Int32} {s0 : Nat} : am_run 162 22 [some (.ref l0), some (.int l1)] [.ref s0] w = (am_gf w l0 6 0).bind fun v => am_run 162 29 [none, none] (v :: [.int (l1 / (nI 4)), .ref s0]) w := by
  refine (bu (ls'' := [some (.ref l0), none]) (st' := [.int l1, .ref s0]) bf162_22 bf162_23 rfl rfl).trans ?_
  refine (bu (ls'' := [some (.ref l0), none]) (st' := [.int (nI 4), .int l1, .ref s0]) bf162_23 bf162_24 rfl rfl).trans ?_
  refine (bu (ls'' := [some (.ref l0), none]) (st' := [.int (l1 / (nI 4)), .ref s0]) bf162_24 bf162_25 rfl rfl).trans ?_
  refine (bu (ls'' := [none, none]) (st' := [.ref l0, .int (l1 / (nI 4)), .ref s0]) bf162_25 bf162_26 rfl rfl).trans ?_
  exact bh bf162_26 bf162_29 rfl (fun _ _ => am_ge_rf w) rfl
theorem bk162_32 {w : am_Wd} {s0 : Int32} : am_run 162 32 [none, none] [.int s0] w = some (.inl (some (.int s0)), w) := by
  exact am_e2 bf162_32 rfl (am_ge_rf w)
theorem bk162_29 {w : am_Wd} {s0 : Int32} {s1 : Int32} {s2 : Nat} : am_run 162 29 [none, none] [.int s0, .int s1, .ref s2] w = (am_kf w s2 7).bind fun _ => (am_x 87 [.ref s2, .int s1, .int s0] w).bind fun r => bct r fun v w' => am_run 162 32 [none, none] (v.toList ++ []) w' := by
  exact bkV bf162_29 bf162_32 rfl (by decide +kernel) (Nat.le_of_ble_eq_true rfl) rfl (bhd rfl)
theorem bf163_0 : am_fetch (am_mth 163) 0 = some (.aload_n 0, 1, [], [1]) := by decide +kernel
theorem bf163_1 : am_fetch (am_mth 163) 1 = some (.getfield 21, 3, [0, 6, 2, 304], [1]) := by decide +kernel
theorem bf163_4 : am_fetch (am_mth 163) 4 = some (.invokevirtual 64, 3, [0, 118, 0, 4, 500, 501, 502, 30], [1]) := by decide +kernel
theorem bf163_7 : am_fetch (am_mth 163) 7 = some (.istore_n 1, 1, [], [1]) := by decide +kernel
theorem bf163_8 : am_fetch (am_mth 163) 8 = some (.iload_n 1, 1, [], []) := by decide +kernel
theorem bf163_9 : am_fetch (am_mth 163) 9 = some (.iconst (-1), 1, [], []) := by decide +kernel
theorem bf163_10 : am_fetch (am_mth 163) 10 = some (.if_icmp .ne 8, 3, [], []) := by decide +kernel
theorem bf163_13 : am_fetch (am_mth 163) 13 = some (.bipush (-2), 2, [], [0, 1]) := by decide +kernel
theorem bf163_15 : am_fetch (am_mth 163) 15 = some (.goto 13, 3, [], [0, 1]) := by decide +kernel
theorem bf163_18 : am_fetch (am_mth 163) 18 = some (.aload_n 0, 1, [], []) := by decide +kernel
theorem bf163_19 : am_fetch (am_mth 163) 19 = some (.getfield 12, 3, [0, 6, 1, 302], [0]) := by decide +kernel
theorem bf163_22 : am_fetch (am_mth 163) 22 = some (.iload_n 1, 1, [], [0]) := by decide +kernel
theorem bf163_23 : am_fetch (am_mth 163) 23 = some (.iconst 4, 1, [], [0, 1]) := by decide +kernel
theorem bf163_24 : am_fetch (am_mth 163) 24 = some (.idiv, 1, [], [0, 1]) := by decide +kernel
theorem bf163_25 : am_fetch (am_mth 163) 25 = some (.invokevirtual 98, 3, [0, 132, 1, 7, 520, 521, 522, 29], [0, 1]) := by decide +kernel
theorem bf163_28 : am_fetch (am_mth 163) 28 = some (.ireturn, 1, [0], [0, 1]) := by decide +kernel
theorem bk163_0 {w : am_Wd} {l0 : Nat} : am_run 163 0 [some (.ref l0), none] [] w = (am_gf w l0 6 2).bind fun v => am_run 163 4 [some (.ref l0), none] (v :: []) w := by
  refine (bu (ls'' := [some (.ref l0), none]) (st' := [.ref l0]) bf163_0 bf163_1 rfl rfl).trans ?_
  exact bh bf163_1 bf163_4 rfl (fun _ _ => am_ge_rf w) rfl
theorem bk163_4 {w : am_Wd} {l0 : Nat} {s0 : Nat} : am_run 163 4 [some (.ref l0), none] [.ref s0] w = (am_kf w s0 4).bind fun _ => (am_x 118 [.ref s0] w).bind fun r => bct r fun v w' => am_run 163 7 [some (.ref l0), none] (v.toList ++ []) w' := by
  exact bkV bf163_4 bf163_7 rfl (by decide +kernel) (Nat.le_of_ble_eq_true rfl) rfl (bhd rfl)
theorem bk163_7 {w : am_Wd} {l0 : Nat} {s0 : Int32} : am_run 163 7 [some (.ref l0), none] [.int s0] w = if ¬ s0 = (-1 : Int32) then am_run 163 18 [some (.ref l0), some (.int s0)] [] w else am_run 163 13 [none, none] [] w := by
  refine (bu (ls'' := [some (.ref l0), some (.int s0)]) (st' := []) bf163_7 bf163_8 rfl rfl).trans ?_
  refine (bu (ls'' := [some (.ref l0), some (.int s0)]) (st' := [.int s0]) bf163_8 bf163_9 rfl rfl).trans ?_
  refine (bu (ls'' := [some (.ref l0), some (.int s0)]) (st' := [.int (-1 : Int32), .int s0]) bf163_9 bf163_10 rfl rfl).trans ?_
  exact bic bf163_10 rfl bf163_18 bf163_13 rfl rfl rfl
theorem bk163_18 {w : am_Wd} {l0 : Nat} {l1 : Int32} : am_run 163 18 [some (.ref l0), some (.int l1)] [] w = (am_gf w l0 6 1).bind fun v => am_run 163 22 [none, some (.int l1)] (v :: []) w := by
  refine (bu (ls'' := [none, some (.int l1)]) (st' := [.ref l0]) bf163_18 bf163_19 rfl rfl).trans ?_
  exact bh bf163_19 bf163_22 rfl (fun _ _ => am_ge_rf w) rfl
theorem bk163_13 {w : am_Wd}  : am_run 163 13 [none, none] [] w = am_run 163 28 [none, none] [.int (-2 : Int32)] w := by
  refine (bu (ls'' := [none, none]) (st' := [.int (-2 : Int32)]) bf163_13 bf163_15 rfl rfl).trans ?_
  refine (bu (ls'' := [none, none]) (st' := [.int (-2 : Int32)]) bf163_15 bf163_28 rfl rfl).trans ?_
  rfl
theorem bk163_22 {w : am_Wd} {l1 : Int32} {s0 : Nat} : am_run 163 22 [none, some (.int l1)] [.ref s0] w = (am_kf w s0 7).bind fun _ => (am_x 132 [.ref s0, .int (l1 / (nI 4))] w).bind fun r => bct r fun v w' => am_run 163 28 [none, none] (v.toList ++ []) w' := by
  refine (bu (ls'' := [none, none]) (st' := [.int l1, .ref s0]) bf163_22 bf163_23 rfl rfl).trans ?_
  refine (bu (ls'' := [none, none]) (st' := [.int (nI 4), .int l1, .ref s0]) bf163_23 bf163_24 rfl rfl).trans ?_
  refine (bu (ls'' := [none, none]) (st' := [.int (l1 / (nI 4)), .ref s0]) bf163_24 bf163_25 rfl rfl).trans ?_
  exact bkV bf163_25 bf163_28 rfl (by decide +kernel) (Nat.le_of_ble_eq_true rfl) rfl (bhd rfl)
theorem bk163_28 {w : am_Wd} {s0 : Int32} : am_run 163 28 [none, none] [.int s0] w = some (.inl (some (.int s0)), w) := by
  exact am_e2 bf163_28 rfl (am_ge_rf w)
theorem bf164_0 : am_fetch (am_mth 164) 0 = some (.iload_n 1, 1, [], [2, 3]) := by decide +kernel
theorem bf164_1 : am_fetch (am_mth 164) 1 = some (.lookupswitch 90 #[(0, 27), (3, 55)], 27, [], [1, 2, 3]) := by decide +kernel
theorem bf164_28 : am_fetch (am_mth 164) 28 = some (.aload_n 0, 1, [], [1, 2, 3]) := by decide +kernel
theorem bf164_29 : am_fetch (am_mth 164) 29 = some (.getfield 21, 3, [0, 6, 2, 304], [1, 2, 3]) := by decide +kernel
theorem bf164_32 : am_fetch (am_mth 164) 32 = some (.iconst 1, 1, [], [1, 2, 3]) := by decide +kernel
theorem bf164_33 : am_fetch (am_mth 164) 33 = some (.aload_n 0, 1, [], [1, 2, 3]) := by decide +kernel
theorem bf164_34 : am_fetch (am_mth 164) 34 = some (.getfield 12, 3, [0, 6, 1, 302], [1, 2, 3]) := by decide +kernel
theorem bf164_37 : am_fetch (am_mth 164) 37 = some (.invokevirtual 101, 3, [0, 121, 2, 4, 424, 425, 426, 30], [1, 2, 3]) := by decide +kernel
theorem bf164_40 : am_fetch (am_mth 164) 40 = some (.aload_n 0, 1, [], [1, 2, 3]) := by decide +kernel
theorem bf164_41 : am_fetch (am_mth 164) 41 = some (.getfield 21, 3, [0, 6, 2, 304], [1, 2, 3]) := by decide +kernel
theorem bf164_44 : am_fetch (am_mth 164) 44 = some (.iconst 0, 1, [], [1, 2, 3]) := by decide +kernel
theorem bf164_45 : am_fetch (am_mth 164) 45 = some (.aload_n 0, 1, [], [1, 2, 3]) := by decide +kernel
theorem bf164_46 : am_fetch (am_mth 164) 46 = some (.getfield 12, 3, [0, 6, 1, 302], [0, 1, 2, 3]) := by decide +kernel
theorem bf164_49 : am_fetch (am_mth 164) 49 = some (.invokevirtual 101, 3, [0, 121, 2, 4, 424, 425, 426, 30], [0, 1, 2, 3]) := by decide +kernel
theorem bf164_52 : am_fetch (am_mth 164) 52 = some (.invokestatic 105, 3, [1, 441, 442, 24, 443], [0, 1, 2, 3]) := by decide +kernel
theorem bf164_55 : am_fetch (am_mth 164) 55 = some (.ireturn, 1, [0], [0, 1, 2, 3]) := by decide +kernel
theorem bf164_56 : am_fetch (am_mth 164) 56 = some (.iconst 0, 1, [], [1, 2, 3]) := by decide +kernel
theorem bf164_57 : am_fetch (am_mth 164) 57 = some (.istore_n 2, 1, [], [1, 2, 3]) := by decide +kernel
theorem bf164_58 : am_fetch (am_mth 164) 58 = some (.iconst 0, 1, [], [1, 3]) := by decide +kernel
theorem bf164_59 : am_fetch (am_mth 164) 59 = some (.istore_n 3, 1, [], [1, 3]) := by decide +kernel
theorem bf164_60 : am_fetch (am_mth 164) 60 = some (.iload_n 3, 1, [], [1]) := by decide +kernel
theorem bf164_61 : am_fetch (am_mth 164) 61 = some (.bipush 8, 2, [], [1]) := by decide +kernel
theorem bf164_63 : am_fetch (am_mth 164) 63 = some (.if_icmp .ge 26, 3, [], [1]) := by decide +kernel
theorem bf164_66 : am_fetch (am_mth 164) 66 = some (.iload_n 2, 1, [], [1]) := by decide +kernel
theorem bf164_67 : am_fetch (am_mth 164) 67 = some (.aload_n 0, 1, [], [1, 2]) := by decide +kernel
theorem bf164_68 : am_fetch (am_mth 164) 68 = some (.getfield 21, 3, [0, 6, 2, 304], [1, 2]) := by decide +kernel
theorem bf164_71 : am_fetch (am_mth 164) 71 = some (.iload_n 3, 1, [], [1, 2]) := by decide +kernel
theorem bf164_72 : am_fetch (am_mth 164) 72 = some (.aload_n 0, 1, [], [1, 2]) := by decide +kernel
theorem bf164_73 : am_fetch (am_mth 164) 73 = some (.getfield 12, 3, [0, 6, 1, 302], [1, 2]) := by decide +kernel
theorem bf164_76 : am_fetch (am_mth 164) 76 = some (.invokevirtual 110, 3, [0, 122, 2, 4, 444, 445, 446, 30], [1, 2]) := by decide +kernel
theorem bf164_79 : am_fetch (am_mth 164) 79 = some (.invokestatic 105, 3, [1, 441, 442, 24, 443], [1, 2]) := by decide +kernel
theorem bf164_82 : am_fetch (am_mth 164) 82 = some (.istore_n 2, 1, [], [1, 2]) := by decide +kernel
theorem bf164_83 : am_fetch (am_mth 164) 83 = some (.iinc 3 1, 3, [], [1]) := by decide +kernel
theorem bf164_86 : am_fetch (am_mth 164) 86 = some (.goto (-26), 3, [], [1]) := by decide +kernel
theorem bf164_89 : am_fetch (am_mth 164) 89 = some (.iload_n 2, 1, [], [0, 1, 3]) := by decide +kernel
theorem bf164_90 : am_fetch (am_mth 164) 90 = some (.ireturn, 1, [0], [0, 1, 2, 3]) := by decide +kernel
theorem bf164_91 : am_fetch (am_mth 164) 91 = some (.aload_n 0, 1, [], [1, 2, 3]) := by decide +kernel
theorem bf164_92 : am_fetch (am_mth 164) 92 = some (.getfield 21, 3, [0, 6, 2, 304], [0, 1, 2, 3]) := by decide +kernel
theorem bf164_95 : am_fetch (am_mth 164) 95 = some (.invokevirtual 42, 3, [0, 72, 0, 4, 377, 378, 379, 30], [0, 1, 2, 3]) := by decide +kernel
theorem bf164_98 : am_fetch (am_mth 164) 98 = some (.ireturn, 1, [0], [0, 1, 2, 3]) := by decide +kernel
theorem bk164_0 {w : am_Wd} {l0 : Nat} {l1 : Int32} : am_run 164 0 [some (.ref l0), some (.int l1), none, none] [] w = if l1 = (nI 0) then am_run 164 28 [some (.ref l0), none, none, none] [] w else if l1 = (nI 3) then am_run 164 56 [some (.ref l0), none, none, none] [] w else am_run 164 91 [some (.ref l0), none, none, none] [] w := by
  refine (bu (ls'' := [some (.ref l0), none, none, none]) (st' := [.int l1]) bf164_0 bf164_1 rfl rfl).trans ?_
  refine bsw (fun q => ?_) (fun q0 => ?_)
  · exact bu (ls' := [some (.ref l0), none, none, none]) (ls'' := [some (.ref l0), none, none, none]) (st' := []) bf164_1 bf164_28 (by rw [q]; rfl) rfl
  refine bsw (fun q => ?_) (fun q1 => ?_)
  · exact bu (ls' := [some (.ref l0), none, none, none]) (ls'' := [some (.ref l0), none, none, none]) (st' := []) bf164_1 bf164_56 (by rw [q]; rfl) rfl
  exact bsl bf164_1 bf164_91 rfl rfl (bcon (by rfl) q0 (bcon (by rfl) q1 (bnil))) rfl
theorem bk164_28 {w : am_Wd} {l0 : Nat} : am_run 164 28 [some (.ref l0), none, none, none] [] w = (am_gf w l0 6 2).bind fun v => am_run 164 32 [some (.ref l0), none, none, none] (v :: []) w := by
  refine (bu (ls'' := [some (.ref l0), none, none, none]) (st' := [.ref l0]) bf164_28 bf164_29 rfl rfl).trans ?_
  exact bh bf164_29 bf164_32 rfl (fun _ _ => am_ge_rf w) rfl
theorem bk164_56 {w : am_Wd} {l0 : Nat} : am_run 164 56 [some (.ref l0), none, none, none] [] w = am_run 164 60 [some (.ref l0), none, some (.int (nI 0)), some (.int (nI 0))] [] w := by
  refine (bu (ls'' := [some (.ref l0), none, none, none]) (st' := [.int (nI 0)]) bf164_56 bf164_57 rfl rfl).trans ?_
  refine (bu (ls'' := [some (.ref l0), none, some (.int (nI 0)), none]) (st' := []) bf164_57 bf164_58 rfl rfl).trans ?_
  refine (bu (ls'' := [some (.ref l0), none, some (.int (nI 0)), none]) (st' := [.int (nI 0)]) bf164_58 bf164_59 rfl rfl).trans ?_
  refine (bu (ls'' := [some (.ref l0), none, some (.int (nI 0)), some (.int (nI 0))]) (st' := []) bf164_59 bf164_60 rfl rfl).trans ?_
  rfl
theorem bk164_91 {w : am_Wd} {l0 : Nat} : am_run 164 91 [some (.ref l0), none, none, none] [] w = (am_gf w l0 6 2).bind fun v => am_run 164 95 [none, none, none, none] (v :: []) w := by
  refine (bu (ls'' := [none, none, none, none]) (st' := [.ref l0]) bf164_91 bf164_92 rfl rfl).trans ?_
  exact bh bf164_92 bf164_95 rfl (fun _ _ => am_ge_rf w) rfl
theorem bk164_32 {w : am_Wd} {l0 : Nat} {s0 : Nat} : am_run 164 32 [some (.ref l0), none, none, none] [.ref s0] w = (am_gf w l0 6 1).bind fun v => am_run 164 37 [some (.ref l0), none, none, none] (v :: [.int (nI 1), .ref s0]) w := by
  refine (bu (ls'' := [some (.ref l0), none, none, none]) (st' := [.int (nI 1), .ref s0]) bf164_32 bf164_33 rfl rfl).trans ?_
  refine (bu (ls'' := [some (.ref l0), none, none, none]) (st' := [.ref l0, .int (nI 1), .ref s0]) bf164_33 bf164_34 rfl rfl).trans ?_
  exact bh bf164_34 bf164_37 rfl (fun _ _ => am_ge_rf w) rfl
theorem bk164_60 {w : am_Wd} {l0 : Nat} {l2 : Int32} {l3 : Int32} : am_run 164 60 [some (.ref l0), none, some (.int l2), some (.int l3)] [] w = if (nI 8) ≤ l3 then am_run 164 89 [none, none, some (.int l2), none] [] w else am_run 164 66 [some (.ref l0), none, some (.int l2), some (.int l3)] [] w := by
  refine (bu (ls'' := [some (.ref l0), none, some (.int l2), some (.int l3)]) (st' := [.int l3]) bf164_60 bf164_61 rfl rfl).trans ?_
  refine (bu (ls'' := [some (.ref l0), none, some (.int l2), some (.int l3)]) (st' := [.int (nI 8), .int l3]) bf164_61 bf164_63 rfl rfl).trans ?_
  exact bic bf164_63 rfl bf164_89 bf164_66 rfl rfl rfl
theorem bk164_95 {w : am_Wd} {s0 : Nat} : am_run 164 95 [none, none, none, none] [.ref s0] w = (am_kf w s0 4).bind fun _ => (am_x 72 [.ref s0] w).bind fun r => bct r fun v w' => am_run 164 98 [none, none, none, none] (v.toList ++ []) w' := by
  exact bkV bf164_95 bf164_98 rfl (by decide +kernel) (Nat.le_of_ble_eq_true rfl) rfl (bhd rfl)
theorem bk164_37 {w : am_Wd} {l0 : Nat} {s0 : Nat} {s1 : Int32} {s2 : Nat} : am_run 164 37 [some (.ref l0), none, none, none] [.ref s0, .int s1, .ref s2] w = (am_kf w s2 4).bind fun _ => (am_x 121 [.ref s2, .int s1, .ref s0] w).bind fun r => bct r fun v w' => am_run 164 40 [some (.ref l0), none, none, none] (v.toList ++ []) w' := by
  exact bkV bf164_37 bf164_40 rfl (by decide +kernel) (Nat.le_of_ble_eq_true rfl) rfl (bhd rfl)
theorem bk164_89 {w : am_Wd} {l2 : Int32} : am_run 164 89 [none, none, some (.int l2), none] [] w = some (.inl (some (.int l2)), w) := by
  refine (bu (ls'' := [none, none, none, none]) (st' := [.int l2]) bf164_89 bf164_90 rfl rfl).trans ?_
  exact am_e2 bf164_90 rfl (am_ge_rf w)
theorem bk164_66 {w : am_Wd} {l0 : Nat} {l2 : Int32} {l3 : Int32} : am_run 164 66 [some (.ref l0), none, some (.int l2), some (.int l3)] [] w = (am_gf w l0 6 2).bind fun v => am_run 164 71 [some (.ref l0), none, none, some (.int l3)] (v :: [.int l2]) w := by
  refine (bu (ls'' := [some (.ref l0), none, none, some (.int l3)]) (st' := [.int l2]) bf164_66 bf164_67 rfl rfl).trans ?_
  refine (bu (ls'' := [some (.ref l0), none, none, some (.int l3)]) (st' := [.ref l0, .int l2]) bf164_67 bf164_68 rfl rfl).trans ?_
  exact bh bf164_68 bf164_71 rfl (fun _ _ => am_ge_rf w) rfl
theorem bk164_98 {w : am_Wd} {s0 : Int32} : am_run 164 98 [none, none, none, none] [.int s0] w = some (.inl (some (.int s0)), w) := by
  exact am_e2 bf164_98 rfl (am_ge_rf w)
theorem bk164_40 {w : am_Wd} {l0 : Nat} {s0 : Int32} : am_run 164 40 [some (.ref l0), none, none, none] [.int s0] w = (am_gf w l0 6 2).bind fun v => am_run 164 44 [some (.ref l0), none, none, none] (v :: [.int s0]) w := by
  refine (bu (ls'' := [some (.ref l0), none, none, none]) (st' := [.ref l0, .int s0]) bf164_40 bf164_41 rfl rfl).trans ?_
  exact bh bf164_41 bf164_44 rfl (fun _ _ => am_ge_rf w) rfl
theorem bk164_71 {w : am_Wd} {l0 : Nat} {l3 : Int32} {s0 : Nat} {s1 : Int32} : am_run 164 71 [some (.ref l0), none, none, some (.int l3)] [.ref s0, .int s1] w = (am_gf w l0 6 1).bind fun v => am_run 164 76 [some (.ref l0), none, none, some (.int l3)] (v :: [.int l3, .ref s0, .int s1]) w := by
  refine (bu (ls'' := [some (.ref l0), none, none, some (.int l3)]) (st' := [.int l3, .ref s0, .int s1]) bf164_71 bf164_72 rfl rfl).trans ?_
  refine (bu (ls'' := [some (.ref l0), none, none, some (.int l3)]) (st' := [.ref l0, .int l3, .ref s0, .int s1]) bf164_72 bf164_73 rfl rfl).trans ?_
  exact bh bf164_73 bf164_76 rfl (fun _ _ => am_ge_rf w) rfl
theorem bk164_44 {w : am_Wd} {l0 : Nat} {s0 : Nat} {s1 : Int32} : am_run 164 44 [some (.ref l0), none, none, none] [.ref s0, .int s1] w = (am_gf w l0 6 1).bind fun v => am_run 164 49 [none, none, none, none] (v :: [.int (nI 0), .ref s0, .int s1]) w := by
  refine (bu (ls'' := [some (.ref l0), none, none, none]) (st' := [.int (nI 0), .ref s0, .int s1]) bf164_44 bf164_45 rfl rfl).trans ?_
  refine (bu (ls'' := [none, none, none, none]) (st' := [.ref l0, .int (nI 0), .ref s0, .int s1]) bf164_45 bf164_46 rfl rfl).trans ?_
  exact bh bf164_46 bf164_49 rfl (fun _ _ => am_ge_rf w) rfl
theorem bk164_76 {w : am_Wd} {l0 : Nat} {l3 : Int32} {s0 : Nat} {s1 : Int32} {s2 : Nat} {s3 : Int32} : am_run 164 76 [some (.ref l0), none, none, some (.int l3)] [.ref s0, .int s1, .ref s2, .int s3] w = (am_kf w s2 4).bind fun _ => (am_x 122 [.ref s2, .int s1, .ref s0] w).bind fun r => bct r fun v w' => am_run 164 79 [some (.ref l0), none, none, some (.int l3)] (v.toList ++ [.int s3]) w' := by
  exact bkV bf164_76 bf164_79 rfl (by decide +kernel) (Nat.le_of_ble_eq_true rfl) rfl (bhd rfl)
theorem bk164_49 {w : am_Wd} {s0 : Nat} {s1 : Int32} {s2 : Nat} {s3 : Int32} : am_run 164 49 [none, none, none, none] [.ref s0, .int s1, .ref s2, .int s3] w = (am_kf w s2 4).bind fun _ => (am_x 121 [.ref s2, .int s1, .ref s0] w).bind fun r => bct r fun v w' => am_run 164 52 [none, none, none, none] (v.toList ++ [.int s3]) w' := by
  exact bkV bf164_49 bf164_52 rfl (by decide +kernel) (Nat.le_of_ble_eq_true rfl) rfl (bhd rfl)
theorem bk164_79 {w : am_Wd} {l0 : Nat} {l3 : Int32} {s0 : Int32} {s1 : Int32} : am_run 164 79 [some (.ref l0), none, none, some (.int l3)] [.int s0, .int s1] w = am_run 164 60 [some (.ref l0), none, some (.int (bj_max s1 s0)), some (.int (l3 + (nI 1)))] [] w := by
  refine (bu (ls'' := [some (.ref l0), none, none, some (.int l3)]) (st' := [.int (bj_max s1 s0)]) bf164_79 bf164_82 rfl rfl).trans ?_
  refine (bu (ls'' := [some (.ref l0), none, some (.int (bj_max s1 s0)), some (.int l3)]) (st' := []) bf164_82 bf164_83 rfl rfl).trans ?_
  refine (bu (ls'' := [some (.ref l0), none, some (.int (bj_max s1 s0)), some (.int (l3 + (nI 1)))]) (st' := []) bf164_83 bf164_86 rfl rfl).trans ?_
  refine (bu (ls'' := [some (.ref l0), none, some (.int (bj_max s1 s0)), some (.int (l3 + (nI 1)))]) (st' := []) bf164_86 bf164_60 rfl rfl).trans ?_
  rfl
theorem bk164_52 {w : am_Wd} {s0 : Int32} {s1 : Int32} : am_run 164 52 [none, none, none, none] [.int s0, .int s1] w = some (.inl (some (.int (bj_max s1 s0))), w) := by
  refine (bu (ls'' := [none, none, none, none]) (st' := [.int (bj_max s1 s0)]) bf164_52 bf164_55 rfl rfl).trans ?_
  exact am_e2 bf164_55 rfl (am_ge_rf w)
theorem bf165_0 : am_fetch (am_mth 165) 0 = some (.iload_n 1, 1, [], []) := by decide +kernel
theorem bf165_1 : am_fetch (am_mth 165) 1 = some (.tableswitch 125 0 11 #[63, 68, 73, 78, 86, 94, 102, 125, 125, 110, 115, 120], 63, [], [1]) := by decide +kernel
theorem bf165_64 : am_fetch (am_mth 165) 64 = some (.aload_n 0, 1, [], [1]) := by decide +kernel
theorem bf165_65 : am_fetch (am_mth 165) 65 = some (.getfield 29, 3, [0, 6, 3, 306], [0, 1]) := by decide +kernel
theorem bf165_68 : am_fetch (am_mth 165) 68 = some (.ireturn, 1, [0], [0, 1]) := by decide +kernel
theorem bf165_69 : am_fetch (am_mth 165) 69 = some (.aload_n 0, 1, [], [1]) := by decide +kernel
theorem bf165_70 : am_fetch (am_mth 165) 70 = some (.getfield 25, 3, [0, 6, 0, 301], [0, 1]) := by decide +kernel
theorem bf165_73 : am_fetch (am_mth 165) 73 = some (.ireturn, 1, [0], [0, 1]) := by decide +kernel
theorem bf165_74 : am_fetch (am_mth 165) 74 = some (.aload_n 0, 1, [], [1]) := by decide +kernel
theorem bf165_75 : am_fetch (am_mth 165) 75 = some (.getfield 32, 3, [0, 6, 4, 307], [0, 1]) := by decide +kernel
theorem bf165_78 : am_fetch (am_mth 165) 78 = some (.ireturn, 1, [0], [0, 1]) := by decide +kernel
theorem bf165_79 : am_fetch (am_mth 165) 79 = some (.aload_n 0, 1, [], [1]) := by decide +kernel
theorem bf165_80 : am_fetch (am_mth 165) 80 = some (.getfield 21, 3, [0, 6, 2, 304], [0, 1]) := by decide +kernel
theorem bf165_83 : am_fetch (am_mth 165) 83 = some (.invokevirtual 42, 3, [0, 72, 0, 4, 377, 378, 379, 30], [0, 1]) := by decide +kernel
theorem bf165_86 : am_fetch (am_mth 165) 86 = some (.ireturn, 1, [0], [0, 1]) := by decide +kernel
theorem bf165_87 : am_fetch (am_mth 165) 87 = some (.aload_n 0, 1, [], [1]) := by decide +kernel
theorem bf165_88 : am_fetch (am_mth 165) 88 = some (.invokevirtual 114, 3, [0, 128, 0, 6, 382, 383, 384, 28], [0, 1]) := by decide +kernel
theorem bf165_91 : am_fetch (am_mth 165) 91 = some (.invokestatic 118, 3, [0, 26, 1, 386, 371, 17], [0, 1]) := by decide +kernel
theorem bf165_94 : am_fetch (am_mth 165) 94 = some (.ireturn, 1, [0], [0, 1]) := by decide +kernel
theorem bf165_95 : am_fetch (am_mth 165) 95 = some (.aload_n 0, 1, [], [1]) := by decide +kernel
theorem bf165_96 : am_fetch (am_mth 165) 96 = some (.getfield 12, 3, [0, 6, 1, 302], [0, 1]) := by decide +kernel
theorem bf165_99 : am_fetch (am_mth 165) 99 = some (.invokevirtual 122, 3, [0, 83, 0, 7, 387, 388, 389, 29], [0, 1]) := by decide +kernel
theorem bf165_102 : am_fetch (am_mth 165) 102 = some (.ireturn, 1, [0], [0, 1]) := by decide +kernel
theorem bf165_103 : am_fetch (am_mth 165) 103 = some (.aload_n 0, 1, [], [1]) := by decide +kernel
theorem bf165_104 : am_fetch (am_mth 165) 104 = some (.getfield 12, 3, [0, 6, 1, 302], [0, 1]) := by decide +kernel
theorem bf165_107 : am_fetch (am_mth 165) 107 = some (.invokevirtual 125, 3, [0, 84, 0, 7, 392, 393, 394, 29], [0, 1]) := by decide +kernel
theorem bf165_110 : am_fetch (am_mth 165) 110 = some (.ireturn, 1, [0], [0, 1]) := by decide +kernel
theorem bf165_111 : am_fetch (am_mth 165) 111 = some (.aload_n 0, 1, [], [1]) := by decide +kernel
theorem bf165_112 : am_fetch (am_mth 165) 112 = some (.getfield 85, 3, [0, 6, 5, 309], [0, 1]) := by decide +kernel
theorem bf165_115 : am_fetch (am_mth 165) 115 = some (.ireturn, 1, [0], [0, 1]) := by decide +kernel
theorem bf165_116 : am_fetch (am_mth 165) 116 = some (.aload_n 0, 1, [], [1]) := by decide +kernel
theorem bf165_117 : am_fetch (am_mth 165) 117 = some (.getfield 128, 3, [0, 6, 6, 310], [0, 1]) := by decide +kernel
theorem bf165_120 : am_fetch (am_mth 165) 120 = some (.ireturn, 1, [0], [0, 1]) := by decide +kernel
theorem bf165_121 : am_fetch (am_mth 165) 121 = some (.aload_n 0, 1, [], [1]) := by decide +kernel
theorem bf165_122 : am_fetch (am_mth 165) 122 = some (.getfield 131, 3, [0, 6, 7, 313], [0, 1]) := by decide +kernel
theorem bf165_125 : am_fetch (am_mth 165) 125 = some (.ireturn, 1, [0], [0, 1]) := by decide +kernel
theorem bf165_126 : am_fetch (am_mth 165) 126 = some (.aload_n 0, 1, [], [1]) := by decide +kernel
theorem bf165_127 : am_fetch (am_mth 165) 127 = some (.getfield 134, 3, [0, 6, 8, 314], [0, 1]) := by decide +kernel
theorem bf165_130 : am_fetch (am_mth 165) 130 = some (.ireturn, 1, [0], [0, 1]) := by decide +kernel
theorem bk165_0 {w : am_Wd} {l0 : Nat} {l1 : Int32} : am_run 165 0 [some (.ref l0), some (.int l1)] [] w = if l1 = (nI 0) then am_run 165 64 [some (.ref l0), none] [] w else if l1 = (nI 1) then am_run 165 69 [some (.ref l0), none] [] w else if l1 = (nI 2) then am_run 165 74 [some (.ref l0), none] [] w else if l1 = (nI 3) then am_run 165 79 [some (.ref l0), none] [] w else if l1 = (nI 4) then am_run 165 87 [some (.ref l0), none] [] w else if l1 = (nI 5) then am_run 165 95 [some (.ref l0), none] [] w else if l1 = (nI 6) then am_run 165 103 [some (.ref l0), none] [] w else if l1 = (nI 7) then am_run 165 126 [some (.ref l0), none] [] w else if l1 = (nI 8) then am_run 165 126 [some (.ref l0), none] [] w else if l1 = (nI 9) then am_run 165 111 [some (.ref l0), none] [] w else if l1 = (nI 10) then am_run 165 116 [some (.ref l0), none] [] w else if l1 = (nI 11) then am_run 165 121 [some (.ref l0), none] [] w else am_run 165 126 [some (.ref l0), none] [] w := by
  refine (bu (ls'' := [some (.ref l0), none]) (st' := [.int l1]) bf165_0 bf165_1 rfl rfl).trans ?_
  refine bsw (fun q => ?_) (fun q0 => ?_)
  · exact bu (ls' := [some (.ref l0), none]) (ls'' := [some (.ref l0), none]) (st' := []) bf165_1 bf165_64 (by rw [q]; rfl) rfl
  refine bsw (fun q => ?_) (fun q1 => ?_)
  · exact bu (ls' := [some (.ref l0), none]) (ls'' := [some (.ref l0), none]) (st' := []) bf165_1 bf165_69 (by rw [q]; rfl) rfl
  refine bsw (fun q => ?_) (fun q2 => ?_)
  · exact bu (ls' := [some (.ref l0), none]) (ls'' := [some (.ref l0), none]) (st' := []) bf165_1 bf165_74 (by rw [q]; rfl) rfl
  refine bsw (fun q => ?_) (fun q3 => ?_)
  · exact bu (ls' := [some (.ref l0), none]) (ls'' := [some (.ref l0), none]) (st' := []) bf165_1 bf165_79 (by rw [q]; rfl) rfl
  refine bsw (fun q => ?_) (fun q4 => ?_)
  · exact bu (ls' := [some (.ref l0), none]) (ls'' := [some (.ref l0), none]) (st' := []) bf165_1 bf165_87 (by rw [q]; rfl) rfl
  refine bsw (fun q => ?_) (fun q5 => ?_)
  · exact bu (ls' := [some (.ref l0), none]) (ls'' := [some (.ref l0), none]) (st' := []) bf165_1 bf165_95 (by rw [q]; rfl) rfl
  refine bsw (fun q => ?_) (fun q6 => ?_)
  · exact bu (ls' := [some (.ref l0), none]) (ls'' := [some (.ref l0), none]) (st' := []) bf165_1 bf165_103 (by rw [q]; rfl) rfl
  refine bsw (fun q => ?_) (fun q7 => ?_)
  · exact bu (ls' := [some (.ref l0), none]) (ls'' := [some (.ref l0), none]) (st' := []) bf165_1 bf165_126 (by rw [q]; rfl) rfl
  refine bsw (fun q => ?_) (fun q8 => ?_)
  · exact bu (ls' := [some (.ref l0), none]) (ls'' := [some (.ref l0), none]) (st' := []) bf165_1 bf165_126 (by rw [q]; rfl) rfl
  refine bsw (fun q => ?_) (fun q9 => ?_)
  · exact bu (ls' := [some (.ref l0), none]) (ls'' := [some (.ref l0), none]) (st' := []) bf165_1 bf165_111 (by rw [q]; rfl) rfl
  refine bsw (fun q => ?_) (fun q10 => ?_)
  · exact bu (ls' := [some (.ref l0), none]) (ls'' := [some (.ref l0), none]) (st' := []) bf165_1 bf165_116 (by rw [q]; rfl) rfl
  refine bsw (fun q => ?_) (fun q11 => ?_)
  · exact bu (ls' := [some (.ref l0), none]) (ls'' := [some (.ref l0), none]) (st' := []) bf165_1 bf165_121 (by rw [q]; rfl) rfl
  exact bsd bf165_1 bf165_126 rfl rfl (bcon (by rfl) q0 (bcon (by rfl) q1 (bcon (by rfl) q2 (bcon (by rfl) q3 (bcon (by rfl) q4 (bcon (by rfl) q5 (bcon (by rfl) q6 (bcon (by rfl) q7 (bcon (by rfl) q8 (bcon (by rfl) q9 (bcon (by rfl) q10 (bcon (by rfl) q11 (bnil))))))))))))) rfl
theorem bk165_64 {w : am_Wd} {l0 : Nat} : am_run 165 64 [some (.ref l0), none] [] w = (am_gf w l0 6 3).bind fun v => am_run 165 68 [none, none] (v :: []) w := by
  refine (bu (ls'' := [none, none]) (st' := [.ref l0]) bf165_64 bf165_65 rfl rfl).trans ?_
  exact bh bf165_65 bf165_68 rfl (fun _ _ => am_ge_rf w) rfl
theorem bk165_69 {w : am_Wd} {l0 : Nat} : am_run 165 69 [some (.ref l0), none] [] w = (am_gf w l0 6 0).bind fun v => am_run 165 73 [none, none] (v :: []) w := by
  refine (bu (ls'' := [none, none]) (st' := [.ref l0]) bf165_69 bf165_70 rfl rfl).trans ?_
  exact bh bf165_70 bf165_73 rfl (fun _ _ => am_ge_rf w) rfl
theorem bk165_74 {w : am_Wd} {l0 : Nat} : am_run 165 74 [some (.ref l0), none] [] w = (am_gf w l0 6 4).bind fun v => am_run 165 78 [none, none] (v :: []) w := by
  refine (bu (ls'' := [none, none]) (st' := [.ref l0]) bf165_74 bf165_75 rfl rfl).trans ?_
  exact bh bf165_75 bf165_78 rfl (fun _ _ => am_ge_rf w) rfl
theorem bk165_79 {w : am_Wd} {l0 : Nat} : am_run 165 79 [some (.ref l0), none] [] w = (am_gf w l0 6 2).bind fun v => am_run 165 83 [none, none] (v :: []) w := by
  refine (bu (ls'' := [none, none]) (st' := [.ref l0]) bf165_79 bf165_80 rfl rfl).trans ?_
  exact bh bf165_80 bf165_83 rfl (fun _ _ => am_ge_rf w) rfl
theorem bk165_87 {w : am_Wd} {l0 : Nat} : am_run 165 87 [some (.ref l0), none] [] w = (am_kf w l0 6).bind fun _ => (am_x 128 [.ref l0] w).bind fun r => bct r fun v w' => am_run 165 91 [none, none] (v.toList ++ []) w' := by
  refine (bu (ls'' := [none, none]) (st' := [.ref l0]) bf165_87 bf165_88 rfl rfl).trans ?_
  exact bkV bf165_88 bf165_91 rfl (by decide +kernel) (Nat.le_of_ble_eq_true rfl) rfl (bhd rfl)
theorem bk165_95 {w : am_Wd} {l0 : Nat} : am_run 165 95 [some (.ref l0), none] [] w = (am_gf w l0 6 1).bind fun v => am_run 165 99 [none, none] (v :: []) w := by
  refine (bu (ls'' := [none, none]) (st' := [.ref l0]) bf165_95 bf165_96 rfl rfl).trans ?_
  exact bh bf165_96 bf165_99 rfl (fun _ _ => am_ge_rf w) rfl
theorem bk165_103 {w : am_Wd} {l0 : Nat} : am_run 165 103 [some (.ref l0), none] [] w = (am_gf w l0 6 1).bind fun v => am_run 165 107 [none, none] (v :: []) w := by
  refine (bu (ls'' := [none, none]) (st' := [.ref l0]) bf165_103 bf165_104 rfl rfl).trans ?_
  exact bh bf165_104 bf165_107 rfl (fun _ _ => am_ge_rf w) rfl
theorem bk165_126 {w : am_Wd} {l0 : Nat} : am_run 165 126 [some (.ref l0), none] [] w = (am_gf w l0 6 8).bind fun v => am_run 165 130 [none, none] (v :: []) w := by
  refine (bu (ls'' := [none, none]) (st' := [.ref l0]) bf165_126 bf165_127 rfl rfl).trans ?_
  exact bh bf165_127 bf165_130 rfl (fun _ _ => am_ge_rf w) rfl
theorem bk165_111 {w : am_Wd} {l0 : Nat} : am_run 165 111 [some (.ref l0), none] [] w = (am_gf w l0 6 5).bind fun v => am_run 165 115 [none, none] (v :: []) w := by
  refine (bu (ls'' := [none, none]) (st' := [.ref l0]) bf165_111 bf165_112 rfl rfl).trans ?_
  exact bh bf165_112 bf165_115 rfl (fun _ _ => am_ge_rf w) rfl
theorem bk165_116 {w : am_Wd} {l0 : Nat} : am_run 165 116 [some (.ref l0), none] [] w = (am_gf w l0 6 6).bind fun v => am_run 165 120 [none, none] (v :: []) w := by
  refine (bu (ls'' := [none, none]) (st' := [.ref l0]) bf165_116 bf165_117 rfl rfl).trans ?_
  exact bh bf165_117 bf165_120 rfl (fun _ _ => am_ge_rf w) rfl
theorem bk165_121 {w : am_Wd} {l0 : Nat} : am_run 165 121 [some (.ref l0), none] [] w = (am_gf w l0 6 7).bind fun v => am_run 165 125 [none, none] (v :: []) w := by
  refine (bu (ls'' := [none, none]) (st' := [.ref l0]) bf165_121 bf165_122 rfl rfl).trans ?_
  exact bh bf165_122 bf165_125 rfl (fun _ _ => am_ge_rf w) rfl
theorem bk165_68 {w : am_Wd} {s0 : Int32} : am_run 165 68 [none, none] [.int s0] w = some (.inl (some (.int s0)), w) := by
  exact am_e2 bf165_68 rfl (am_ge_rf w)
theorem bk165_73 {w : am_Wd} {s0 : Int32} : am_run 165 73 [none, none] [.int s0] w = some (.inl (some (.int s0)), w) := by
  exact am_e2 bf165_73 rfl (am_ge_rf w)
theorem bk165_78 {w : am_Wd} {s0 : Int32} : am_run 165 78 [none, none] [.int s0] w = some (.inl (some (.int s0)), w) := by
  exact am_e2 bf165_78 rfl (am_ge_rf w)
theorem bk165_83 {w : am_Wd} {s0 : Nat} : am_run 165 83 [none, none] [.ref s0] w = (am_kf w s0 4).bind fun _ => (am_x 72 [.ref s0] w).bind fun r => bct r fun v w' => am_run 165 86 [none, none] (v.toList ++ []) w' := by
  exact bkV bf165_83 bf165_86 rfl (by decide +kernel) (Nat.le_of_ble_eq_true rfl) rfl (bhd rfl)
theorem bk165_91 {w : am_Wd} {s0 : Int32} : am_run 165 91 [none, none] [.int s0] w = (am_x 26 [.int s0] w).bind fun r => bct r fun v w' => am_run 165 94 [none, none] (v.toList ++ []) w' := by
  exact bkS bf165_91 bf165_94 rfl (by decide +kernel) (Nat.le_of_ble_eq_true rfl) rfl (bhd rfl)
theorem bk165_99 {w : am_Wd} {s0 : Nat} : am_run 165 99 [none, none] [.ref s0] w = (am_kf w s0 7).bind fun _ => (am_x 83 [.ref s0] w).bind fun r => bct r fun v w' => am_run 165 102 [none, none] (v.toList ++ []) w' := by
  exact bkV bf165_99 bf165_102 rfl (by decide +kernel) (Nat.le_of_ble_eq_true rfl) rfl (bhd rfl)
theorem bk165_107 {w : am_Wd} {s0 : Nat} : am_run 165 107 [none, none] [.ref s0] w = (am_kf w s0 7).bind fun _ => (am_x 84 [.ref s0] w).bind fun r => bct r fun v w' => am_run 165 110 [none, none] (v.toList ++ []) w' := by
  exact bkV bf165_107 bf165_110 rfl (by decide +kernel) (Nat.le_of_ble_eq_true rfl) rfl (bhd rfl)
theorem bk165_130 {w : am_Wd} {s0 : Int32} : am_run 165 130 [none, none] [.int s0] w = some (.inl (some (.int s0)), w) := by
  exact am_e2 bf165_130 rfl (am_ge_rf w)
theorem bk165_115 {w : am_Wd} {s0 : Int32} : am_run 165 115 [none, none] [.int s0] w = some (.inl (some (.int s0)), w) := by
  exact am_e2 bf165_115 rfl (am_ge_rf w)
theorem bk165_120 {w : am_Wd} {s0 : Int32} : am_run 165 120 [none, none] [.int s0] w = some (.inl (some (.int s0)), w) := by
  exact am_e2 bf165_120 rfl (am_ge_rf w)
theorem bk165_125 {w : am_Wd} {s0 : Int32} : am_run 165 125 [none, none] [.int s0] w = some (.inl (some (.int s0)), w) := by
  exact am_e2 bf165_125 rfl (am_ge_rf w)
theorem bk165_86 {w : am_Wd} {s0 : Int32} : am_run 165 86 [none, none] [.int s0] w = some (.inl (some (.int s0)), w) := by
  exact am_e2 bf165_86 rfl (am_ge_rf w)
theorem bk165_94 {w : am_Wd} {s0 : Int32} : am_run 165 94 [none, none] [.int s0] w = some (.inl (some (.int s0)), w) := by
  exact am_e2 bf165_94 rfl (am_ge_rf w)
theorem bk165_102 {w : am_Wd} {s0 : Int32} : am_run 165 102 [none, none] [.int s0] w = some (.inl (some (.int s0)), w) := by
  exact am_e2 bf165_102 rfl (am_ge_rf w)
theorem bk165_110 {w : am_Wd} {s0 : Int32} : am_run 165 110 [none, none] [.int s0] w = some (.inl (some (.int s0)), w) := by
  exact am_e2 bf165_110 rfl (am_ge_rf w)
theorem bf167_0 : am_fetch (am_mth 167) 0 = some (.iload_n 1, 1, [], [5]) := by decide +kernel
theorem bf167_1 : am_fetch (am_mth 167) 1 = some (.invokestatic 26, 3, [0, 29, 1, 200, 201, 17], [5]) := by decide +kernel
theorem bf167_4 : am_fetch (am_mth 167) 4 = some (.iload_n 2, 1, [], [5]) := by decide +kernel
theorem bf167_5 : am_fetch (am_mth 167) 5 = some (.iconst 0, 1, [], [5]) := by decide +kernel
theorem bf167_6 : am_fetch (am_mth 167) 6 = some (.iconst 3, 1, [], [5]) := by decide +kernel
theorem bf167_7 : am_fetch (am_mth 167) 7 = some (.invokestatic 43, 3, [0, 92, 3, 95, 96, 17], [5]) := by decide +kernel
theorem bf167_10 : am_fetch (am_mth 167) 10 = some (.iload_n 3, 1, [], [5]) := by decide +kernel
theorem bf167_11 : am_fetch (am_mth 167) 11 = some (.iconst 1, 1, [], [5]) := by decide +kernel
theorem bf167_12 : am_fetch (am_mth 167) 12 = some (.sipush 500, 3, [], [5]) := by decide +kernel
theorem bf167_15 : am_fetch (am_mth 167) 15 = some (.invokestatic 43, 3, [0, 92, 3, 95, 96, 17], [5]) := by decide +kernel
theorem bf167_18 : am_fetch (am_mth 167) 18 = some (.aload_n 0, 1, [], [5]) := by decide +kernel
theorem bf167_19 : am_fetch (am_mth 167) 19 = some (.getfield 76, 3, [0, 8, 2, 65], [5]) := by decide +kernel
theorem bf167_22 : am_fetch (am_mth 167) 22 = some (.istore 5, 2, [], [5]) := by decide +kernel
theorem bf167_24 : am_fetch (am_mth 167) 24 = some (.iload 5, 2, [], []) := by decide +kernel
theorem bf167_26 : am_fetch (am_mth 167) 26 = some (.ifCond .lt 13, 3, [], []) := by decide +kernel
theorem bf167_29 : am_fetch (am_mth 167) 29 = some (.iload 5, 2, [], []) := by decide +kernel
theorem bf167_31 : am_fetch (am_mth 167) 31 = some (.aload_n 0, 1, [], []) := by decide +kernel
theorem bf167_32 : am_fetch (am_mth 167) 32 = some (.getfield 18, 3, [0, 8, 1, 64], []) := by decide +kernel
theorem bf167_35 : am_fetch (am_mth 167) 35 = some (.arraylength, 1, [], []) := by decide +kernel
theorem bf167_36 : am_fetch (am_mth 167) 36 = some (.if_icmp .lt 13, 3, [], []) := by decide +kernel
theorem bf167_39 : am_fetch (am_mth 167) 39 = some (.new 79, 3, [1, 2, 234, 27, 243, 81, 83], [0, 1, 2, 3, 4, 5]) := by decide +kernel
theorem bf167_42 : am_fetch (am_mth 167) 42 = some (.dup, 1, [], [0, 1, 2, 3, 4, 5]) := by decide +kernel
theorem bf167_43 : am_fetch (am_mth 167) 43 = some (.ldc 81, 2, [1, 10, 243], [0, 1, 2, 3, 4, 5]) := by decide +kernel
theorem bf167_45 : am_fetch (am_mth 167) 45 = some (.invokespecial 83, 3, [], [0, 1, 2, 3, 4, 5]) := by decide +kernel
theorem bf167_48 : am_fetch (am_mth 167) 48 = some (.athrow, 1, [], [0, 1, 2, 3, 4, 5]) := by decide +kernel
theorem bf167_49 : am_fetch (am_mth 167) 49 = some (.aload_n 0, 1, [], []) := by decide +kernel
theorem bf167_50 : am_fetch (am_mth 167) 50 = some (.getfield 18, 3, [0, 8, 1, 64], []) := by decide +kernel
theorem bf167_53 : am_fetch (am_mth 167) 53 = some (.iload 5, 2, [], []) := by decide +kernel
theorem bf167_55 : am_fetch (am_mth 167) 55 = some (.new 16, 3, [0, 6, 9, 61, 250, 28], []) := by decide +kernel
theorem bf167_58 : am_fetch (am_mth 167) 58 = some (.dup, 1, [], []) := by decide +kernel
theorem bf167_59 : am_fetch (am_mth 167) 59 = some (.iload_n 1, 1, [], []) := by decide +kernel
theorem bf167_60 : am_fetch (am_mth 167) 60 = some (.iload_n 2, 1, [], [1]) := by decide +kernel
theorem bf167_61 : am_fetch (am_mth 167) 61 = some (.iload_n 3, 1, [], [1, 2]) := by decide +kernel
theorem bf167_62 : am_fetch (am_mth 167) 62 = some (.iload 4, 2, [], [1, 2, 3]) := by decide +kernel
theorem bf167_64 : am_fetch (am_mth 167) 64 = some (.invokespecial 86, 3, [0, 127, 4, 251, 252, 28], [1, 2, 3, 4]) := by decide +kernel
theorem bf167_67 : am_fetch (am_mth 167) 67 = some (.aastore, 1, [4, 6, 0], [1, 2, 3, 4]) := by decide +kernel
theorem bf167_68 : am_fetch (am_mth 167) 68 = some (.aload_n 0, 1, [], [1, 2, 3, 4]) := by decide +kernel
theorem bf167_69 : am_fetch (am_mth 167) 69 = some (.iload 5, 2, [], [0, 1, 2, 3, 4]) := by decide +kernel
theorem bf167_71 : am_fetch (am_mth 167) 71 = some (.iconst 1, 1, [], [0, 1, 2, 3, 4]) := by decide +kernel
theorem bf167_72 : am_fetch (am_mth 167) 72 = some (.iadd, 1, [], [0, 1, 2, 3, 4]) := by decide +kernel
theorem bf167_73 : am_fetch (am_mth 167) 73 = some (.putfield 76, 3, [0, 8, 2, 65], [0, 1, 2, 3, 4]) := by decide +kernel
theorem bf167_76 : am_fetch (am_mth 167) 76 = some (.iload 5, 2, [], [0, 1, 2, 3, 4]) := by decide +kernel
theorem bf167_78 : am_fetch (am_mth 167) 78 = some (.ireturn, 1, [0], [0, 1, 2, 3, 4, 5]) := by decide +kernel
theorem bk167_0 {w : am_Wd} {l0 : Nat} {l1 : Int32} {l2 : Int32} {l3 : Int32} {l4 : Int32} : am_run 167 0 [some (.ref l0), some (.int l1), some (.int l2), some (.int l3), some (.int l4), none] [] w = (am_x 29 [.int l1] w).bind fun r => bct r fun v w' => am_run 167 4 [some (.ref l0), some (.int l1), some (.int l2), some (.int l3), some (.int l4), none] (v.toList ++ []) w' := by
  refine (bu (ls'' := [some (.ref l0), some (.int l1), some (.int l2), some (.int l3), some (.int l4), none]) (st' := [.int l1]) bf167_0 bf167_1 rfl rfl).trans ?_
  exact bkS bf167_1 bf167_4 rfl (by decide +kernel) (Nat.le_of_ble_eq_true rfl) rfl (bhd rfl)
theorem bk167_4 {w : am_Wd} {l0 : Nat} {l1 : Int32} {l2 : Int32} {l3 : Int32} {l4 : Int32} : am_run 167 4 [some (.ref l0), some (.int l1), some (.int l2), some (.int l3), some (.int l4), none] [] w = (am_x 92 [.int l2, .int (nI 0), .int (nI 3)] w).bind fun r => bct r fun v w' => am_run 167 10 [some (.ref l0), some (.int l1), some (.int l2), some (.int l3), some (.int l4), none] (v.toList ++ []) w' := by
  refine (bu (ls'' := [some (.ref l0), some (.int l1), some (.int l2), some (.int l3), some (.int l4), none]) (st' := [.int l2]) bf167_4 bf167_5 rfl rfl).trans ?_
  refine (bu (ls'' := [some (.ref l0), some (.int l1), some (.int l2), some (.int l3), some (.int l4), none]) (st' := [.int (nI 0), .int l2]) bf167_5 bf167_6 rfl rfl).trans ?_
  refine (bu (ls'' := [some (.ref l0), some (.int l1), some (.int l2), some (.int l3), some (.int l4), none]) (st' := [.int (nI 3), .int (nI 0), .int l2]) bf167_6 bf167_7 rfl rfl).trans ?_
  exact bkS bf167_7 bf167_10 rfl (by decide +kernel) (Nat.le_of_ble_eq_true rfl) rfl (bhd rfl)
theorem bk167_10 {w : am_Wd} {l0 : Nat} {l1 : Int32} {l2 : Int32} {l3 : Int32} {l4 : Int32} : am_run 167 10 [some (.ref l0), some (.int l1), some (.int l2), some (.int l3), some (.int l4), none] [] w = (am_x 92 [.int l3, .int (nI 1), .int (nI 500)] w).bind fun r => bct r fun v w' => am_run 167 18 [some (.ref l0), some (.int l1), some (.int l2), some (.int l3), some (.int l4), none] (v.toList ++ []) w' := by
  refine (bu (ls'' := [some (.ref l0), some (.int l1), some (.int l2), some (.int l3), some (.int l4), none]) (st' := [.int l3]) bf167_10 bf167_11 rfl rfl).trans ?_
  refine (bu (ls'' := [some (.ref l0), some (.int l1), some (.int l2), some (.int l3), some (.int l4), none]) (st' := [.int (nI 1), .int l3]) bf167_11 bf167_12 rfl rfl).trans ?_
  refine (bu (ls'' := [some (.ref l0), some (.int l1), some (.int l2), some (.int l3), some (.int l4), none]) (st' := [.int (nI 500), .int (nI 1), .int l3]) bf167_12 bf167_15 rfl rfl).trans ?_
  exact bkS bf167_15 bf167_18 rfl (by decide +kernel) (Nat.le_of_ble_eq_true rfl) rfl (bhd rfl)
theorem bk167_18 {w : am_Wd} {l0 : Nat} {l1 : Int32} {l2 : Int32} {l3 : Int32} {l4 : Int32} : am_run 167 18 [some (.ref l0), some (.int l1), some (.int l2), some (.int l3), some (.int l4), none] [] w = (am_gf w l0 8 2).bind fun v => am_run 167 22 [some (.ref l0), some (.int l1), some (.int l2), some (.int l3), some (.int l4), none] (v :: []) w := by
  refine (bu (ls'' := [some (.ref l0), some (.int l1), some (.int l2), some (.int l3), some (.int l4), none]) (st' := [.ref l0]) bf167_18 bf167_19 rfl rfl).trans ?_
  exact bh bf167_19 bf167_22 rfl (fun _ _ => am_ge_rf w) rfl
theorem bk167_22 {w : am_Wd} {l0 : Nat} {l1 : Int32} {l2 : Int32} {l3 : Int32} {l4 : Int32} {s0 : Int32} : am_run 167 22 [some (.ref l0), some (.int l1), some (.int l2), some (.int l3), some (.int l4), none] [.int s0] w = if s0 < nI 0 then am_run 167 39 [none, none, none, none, none, none] [] w else am_run 167 29 [some (.ref l0), some (.int l1), some (.int l2), some (.int l3), some (.int l4), some (.int s0)] [] w := by
  refine (bu (ls'' := [some (.ref l0), some (.int l1), some (.int l2), some (.int l3), some (.int l4), some (.int s0)]) (st' := []) bf167_22 bf167_24 rfl rfl).trans ?_
  refine (bu (ls'' := [some (.ref l0), some (.int l1), some (.int l2), some (.int l3), some (.int l4), some (.int s0)]) (st' := [.int s0]) bf167_24 bf167_26 rfl rfl).trans ?_
  exact bifc bf167_26 rfl bf167_39 bf167_29 rfl rfl rfl
theorem bk167_39 {w : am_Wd}  : am_run 167 39 [none, none, none, none, none, none] [] w = some (.inr (am_xn 2), am_jk w 1 6) := by
  exact am_e2 bf167_39 rfl (am_ge_jk _ _ _)
theorem bk167_29 {w : am_Wd} {l0 : Nat} {l1 : Int32} {l2 : Int32} {l3 : Int32} {l4 : Int32} {l5 : Int32} : am_run 167 29 [some (.ref l0), some (.int l1), some (.int l2), some (.int l3), some (.int l4), some (.int l5)] [] w = (am_gf w l0 8 1).bind fun v => am_run 167 35 [some (.ref l0), some (.int l1), some (.int l2), some (.int l3), some (.int l4), some (.int l5)] (v :: [.int l5]) w := by
  refine (bu (ls'' := [some (.ref l0), some (.int l1), some (.int l2), some (.int l3), some (.int l4), some (.int l5)]) (st' := [.int l5]) bf167_29 bf167_31 rfl rfl).trans ?_
  refine (bu (ls'' := [some (.ref l0), some (.int l1), some (.int l2), some (.int l3), some (.int l4), some (.int l5)]) (st' := [.ref l0, .int l5]) bf167_31 bf167_32 rfl rfl).trans ?_
  exact bh bf167_32 bf167_35 rfl (fun _ _ => am_ge_rf w) rfl
theorem bk167_35 {w : am_Wd} {l0 : Nat} {l1 : Int32} {l2 : Int32} {l3 : Int32} {l4 : Int32} {l5 : Int32} {s0 : Nat} {s1 : Int32} : am_run 167 35 [some (.ref l0), some (.int l1), some (.int l2), some (.int l3), some (.int l4), some (.int l5)] [.ref s0, .int s1] w = (am_len w s0).bind fun v => am_run 167 36 [some (.ref l0), some (.int l1), some (.int l2), some (.int l3), some (.int l4), some (.int l5)] (.int (nI v) :: [.int s1]) w := by
  exact bh bf167_35 bf167_36 rfl (fun _ _ => am_ge_rf w) rfl
theorem bk167_36 {w : am_Wd} {l0 : Nat} {l1 : Int32} {l2 : Int32} {l3 : Int32} {l4 : Int32} {l5 : Int32} {s0 : Int32} {s1 : Int32} : am_run 167 36 [some (.ref l0), some (.int l1), some (.int l2), some (.int l3), some (.int l4), some (.int l5)] [.int s0, .int s1] w = if s1 < s0 then am_run 167 49 [some (.ref l0), some (.int l1), some (.int l2), some (.int l3), some (.int l4), some (.int l5)] [] w else am_run 167 39 [none, none, none, none, none, none] [] w := by
  exact bic bf167_36 rfl bf167_49 bf167_39 rfl rfl rfl
theorem bk167_49 {w : am_Wd} {l0 : Nat} {l1 : Int32} {l2 : Int32} {l3 : Int32} {l4 : Int32} {l5 : Int32} : am_run 167 49 [some (.ref l0), some (.int l1), some (.int l2), some (.int l3), some (.int l4), some (.int l5)] [] w = (am_gf w l0 8 1).bind fun v => am_run 167 53 [some (.ref l0), some (.int l1), some (.int l2), some (.int l3), some (.int l4), some (.int l5)] (v :: []) w := by
  refine (bu (ls'' := [some (.ref l0), some (.int l1), some (.int l2), some (.int l3), some (.int l4), some (.int l5)]) (st' := [.ref l0]) bf167_49 bf167_50 rfl rfl).trans ?_
  exact bh bf167_50 bf167_53 rfl (fun _ _ => am_ge_rf w) rfl
theorem bk167_53 {w : am_Wd} {l0 : Nat} {l1 : Int32} {l2 : Int32} {l3 : Int32} {l4 : Int32} {l5 : Int32} {s0 : Nat} : am_run 167 53 [some (.ref l0), some (.int l1), some (.int l2), some (.int l3), some (.int l4), some (.int l5)] [.ref s0] w = am_run 167 58 [some (.ref l0), some (.int l1), some (.int l2), some (.int l3), some (.int l4), some (.int l5)] (.ref w.2.1 :: [.int l5, .ref s0]) (am_nw w (.inr (6, am_df 6 9)) 9) := by
  refine (bu (ls'' := [some (.ref l0), some (.int l1), some (.int l2), some (.int l3), some (.int l4), some (.int l5)]) (st' := [.int l5, .ref s0]) bf167_53 bf167_55 rfl rfl).trans ?_
  exact bn bf167_55 bf167_58 rfl rfl (am_ge_nw _ _ _)
theorem bk167_58 {w : am_Wd} {l0 : Nat} {l1 : Int32} {l2 : Int32} {l3 : Int32} {l4 : Int32} {l5 : Int32} {s0 : Nat} {s1 : Int32} {s2 : Nat} : am_run 167 58 [some (.ref l0), some (.int l1), some (.int l2), some (.int l3), some (.int l4), some (.int l5)] [.ref s0, .int s1, .ref s2] w = (am_x 127 [.ref s0, .int l1, .int l2, .int l3, .int l4] w).bind fun r => bct r fun v w' => am_run 167 67 [some (.ref l0), none, none, none, none, some (.int l5)] (v.toList ++ [.ref s0, .int s1, .ref s2]) w' := by
  refine (bu (ls'' := [some (.ref l0), some (.int l1), some (.int l2), some (.int l3), some (.int l4), some (.int l5)]) (st' := [.ref s0, .ref s0, .int s1, .ref s2]) bf167_58 bf167_59 rfl rfl).trans ?_
  refine (bu (ls'' := [some (.ref l0), none, some (.int l2), some (.int l3), some (.int l4), some (.int l5)]) (st' := [.int l1, .ref s0, .ref s0, .int s1, .ref s2]) bf167_59 bf167_60 rfl rfl).trans ?_
  refine (bu (ls'' := [some (.ref l0), none, none, some (.int l3), some (.int l4), some (.int l5)]) (st' := [.int l2, .int l1, .ref s0, .ref s0, .int s1, .ref s2]) bf167_60 bf167_61 rfl rfl).trans ?_
  refine (bu (ls'' := [some (.ref l0), none, none, none, some (.int l4), some (.int l5)]) (st' := [.int l3, .int l2, .int l1, .ref s0, .ref s0, .int s1, .ref s2]) bf167_61 bf167_62 rfl rfl).trans ?_
  refine (bu (ls'' := [some (.ref l0), none, none, none, none, some (.int l5)]) (st' := [.int l4, .int l3, .int l2, .int l1, .ref s0, .ref s0, .int s1, .ref s2]) bf167_62 bf167_64 rfl rfl).trans ?_
  exact bkS bf167_64 bf167_67 rfl (by decide +kernel) (Nat.le_of_ble_eq_true rfl) rfl (bhd rfl)
theorem bk167_67 {w : am_Wd} {l0 : Nat} {l5 : Int32} {s0 : Nat} {s1 : Int32} {s2 : Nat} : am_run 167 67 [some (.ref l0), none, none, none, none, some (.int l5)] [.ref s0, .int s1, .ref s2] w = (am_wq 4 6 w s2 s1 s0).bind fun w' => am_run 167 68 [some (.ref l0), none, none, none, none, some (.int l5)] [] w' := by
  exact bh bf167_67 bf167_68 rfl (bge_wq) rfl
theorem bk167_68 {w : am_Wd} {l0 : Nat} {l5 : Int32} : am_run 167 68 [some (.ref l0), none, none, none, none, some (.int l5)] [] w = (am_pf w l0 8 2 (.int (l5 + (nI 1)))).bind fun w' => am_run 167 76 [none, none, none, none, none, some (.int l5)] [] w' := by
  refine (bu (ls'' := [none, none, none, none, none, some (.int l5)]) (st' := [.ref l0]) bf167_68 bf167_69 rfl rfl).trans ?_
  refine (bu (ls'' := [none, none, none, none, none, some (.int l5)]) (st' := [.int l5, .ref l0]) bf167_69 bf167_71 rfl rfl).trans ?_
  refine (bu (ls'' := [none, none, none, none, none, some (.int l5)]) (st' := [.int (nI 1), .int l5, .ref l0]) bf167_71 bf167_72 rfl rfl).trans ?_
  refine (bu (ls'' := [none, none, none, none, none, some (.int l5)]) (st' := [.int (l5 + (nI 1)), .ref l0]) bf167_72 bf167_73 rfl rfl).trans ?_
  exact bh bf167_73 bf167_76 rfl (bge_pf) rfl
theorem bk167_76 {w : am_Wd} {l5 : Int32} : am_run 167 76 [none, none, none, none, none, some (.int l5)] [] w = some (.inl (some (.int l5)), w) := by
  refine (bu (ls'' := [none, none, none, none, none, none]) (st' := [.int l5]) bf167_76 bf167_78 rfl rfl).trans ?_
  exact am_e2 bf167_78 rfl (am_ge_rf w)
theorem bf169_0 : am_fetch (am_mth 169) 0 = some (.iload_n 1, 1, [], []) := by decide +kernel
theorem bf169_1 : am_fetch (am_mth 169) 1 = some (.invokestatic 26, 3, [0, 29, 1, 200, 201, 17], []) := by decide +kernel
theorem bf169_4 : am_fetch (am_mth 169) 4 = some (.iload_n 2, 1, [], []) := by decide +kernel
theorem bf169_5 : am_fetch (am_mth 169) 5 = some (.invokestatic 30, 3, [0, 30, 1, 469, 470, 17], []) := by decide +kernel
theorem bf169_8 : am_fetch (am_mth 169) 8 = some (.iload_n 3, 1, [], []) := by decide +kernel
theorem bf169_9 : am_fetch (am_mth 169) 9 = some (.iconst 0, 1, [], []) := by decide +kernel
theorem bf169_10 : am_fetch (am_mth 169) 10 = some (.iconst 2, 1, [], []) := by decide +kernel
theorem bf169_11 : am_fetch (am_mth 169) 11 = some (.invokestatic 43, 3, [0, 92, 3, 95, 96, 17], []) := by decide +kernel
theorem bf169_14 : am_fetch (am_mth 169) 14 = some (.iload_n 3, 1, [], []) := by decide +kernel
theorem bf169_15 : am_fetch (am_mth 169) 15 = some (.lookupswitch 52 #[(0, 25), (1, 35)], 25, [], [3]) := by decide +kernel
theorem bf169_40 : am_fetch (am_mth 169) 40 = some (.aload_n 0, 1, [], [3]) := by decide +kernel
theorem bf169_41 : am_fetch (am_mth 169) 41 = some (.getfield 10, 3, [0, 8, 0, 63], [0, 3]) := by decide +kernel
theorem bf169_44 : am_fetch (am_mth 169) 44 = some (.iload_n 1, 1, [], [0, 3]) := by decide +kernel
theorem bf169_45 : am_fetch (am_mth 169) 45 = some (.iload_n 2, 1, [], [0, 1, 3]) := by decide +kernel
theorem bf169_46 : am_fetch (am_mth 169) 46 = some (.invokevirtual 48, 3, [0, 124, 2, 5, 473, 474, 475, 18], [0, 1, 2, 3]) := by decide +kernel
theorem bf169_49 : am_fetch (am_mth 169) 49 = some (.ireturn, 1, [0], [0, 1, 2, 3]) := by decide +kernel
theorem bf169_50 : am_fetch (am_mth 169) 50 = some (.aload_n 0, 1, [], [3]) := by decide +kernel
theorem bf169_51 : am_fetch (am_mth 169) 51 = some (.getfield 10, 3, [0, 8, 0, 63], [3]) := by decide +kernel
theorem bf169_54 : am_fetch (am_mth 169) 54 = some (.iload_n 1, 1, [], [3]) := by decide +kernel
theorem bf169_55 : am_fetch (am_mth 169) 55 = some (.iload_n 2, 1, [], [1, 3]) := by decide +kernel
theorem bf169_56 : am_fetch (am_mth 169) 56 = some (.aload_n 0, 1, [], [1, 2, 3]) := by decide +kernel
theorem bf169_57 : am_fetch (am_mth 169) 57 = some (.invokevirtual 110, 3, [0, 33, 0, 8, 348, 350, 2, 17], [0, 1, 2, 3]) := by decide +kernel
theorem bf169_60 : am_fetch (am_mth 169) 60 = some (.invokevirtual 113, 3, [0, 126, 3, 5, 477, 364, 365, 18], [0, 1, 2, 3]) := by decide +kernel
theorem bf169_63 : am_fetch (am_mth 169) 63 = some (.invokestatic 200, 3, [0, 26, 1, 478, 371, 17], [0, 1, 2, 3]) := by decide +kernel
theorem bf169_66 : am_fetch (am_mth 169) 66 = some (.ireturn, 1, [0], [0, 1, 2, 3]) := by decide +kernel
theorem bf169_67 : am_fetch (am_mth 169) 67 = some (.aload_n 0, 1, [], [3]) := by decide +kernel
theorem bf169_68 : am_fetch (am_mth 169) 68 = some (.getfield 10, 3, [0, 8, 0, 63], [0, 3]) := by decide +kernel
theorem bf169_71 : am_fetch (am_mth 169) 71 = some (.iload_n 1, 1, [], [0, 3]) := by decide +kernel
theorem bf169_72 : am_fetch (am_mth 169) 72 = some (.iload_n 2, 1, [], [0, 1, 3]) := by decide +kernel
theorem bf169_73 : am_fetch (am_mth 169) 73 = some (.invokevirtual 204, 3, [0, 125, 2, 5, 479, 480, 481, 18], [0, 1, 2, 3]) := by decide +kernel
theorem bf169_76 : am_fetch (am_mth 169) 76 = some (.ireturn, 1, [0], [0, 1, 2, 3]) := by decide +kernel
theorem bk169_0 {w : am_Wd} {l0 : Nat} {l1 : Int32} {l2 : Int32} {l3 : Int32} : am_run 169 0 [some (.ref l0), some (.int l1), some (.int l2), some (.int l3)] [] w = (am_x 29 [.int l1] w).bind fun r => bct r fun v w' => am_run 169 4 [some (.ref l0), some (.int l1), some (.int l2), some (.int l3)] (v.toList ++ []) w' := by
  refine (bu (ls'' := [some (.ref l0), some (.int l1), some (.int l2), some (.int l3)]) (st' := [.int l1]) bf169_0 bf169_1 rfl rfl).trans ?_
  exact bkS bf169_1 bf169_4 rfl (by decide +kernel) (Nat.le_of_ble_eq_true rfl) rfl (bhd rfl)
theorem bk169_4 {w : am_Wd} {l0 : Nat} {l1 : Int32} {l2 : Int32} {l3 : Int32} : am_run 169 4 [some (.ref l0), some (.int l1), some (.int l2), some (.int l3)] [] w = (am_x 30 [.int l2] w).bind fun r => bct r fun v w' => am_run 169 8 [some (.ref l0), some (.int l1), some (.int l2), some (.int l3)] (v.toList ++ []) w' := by
  refine (bu (ls'' := [some (.ref l0), some (.int l1), some (.int l2), some (.int l3)]) (st' := [.int l2]) bf169_4 bf169_5 rfl rfl).trans ?_
  exact bkS bf169_5 bf169_8 rfl (by decide +kernel) (Nat.le_of_ble_eq_true rfl) rfl (bhd rfl)
theorem bk169_8 {w : am_Wd} {l0 : Nat} {l1 : Int32} {l2 : Int32} {l3 : Int32} : am_run 169 8 [some (.ref l0), some (.int l1), some (.int l2), some (.int l3)] [] w = (am_x 92 [.int l3, .int (nI 0), .int (nI 2)] w).bind fun r => bct r fun v w' => am_run 169 14 [some (.ref l0), some (.int l1), some (.int l2), some (.int l3)] (v.toList ++ []) w' := by
  refine (bu (ls'' := [some (.ref l0), some (.int l1), some (.int l2), some (.int l3)]) (st' := [.int l3]) bf169_8 bf169_9 rfl rfl).trans ?_
  refine (bu (ls'' := [some (.ref l0), some (.int l1), some (.int l2), some (.int l3)]) (st' := [.int (nI 0), .int l3]) bf169_9 bf169_10 rfl rfl).trans ?_
  refine (bu (ls'' := [some (.ref l0), some (.int l1), some (.int l2), some (.int l3)]) (st' := [.int (nI 2), .int (nI 0), .int l3]) bf169_10 bf169_11 rfl rfl).trans ?_
  exact bkS bf169_11 bf169_14 rfl (by decide +kernel) (Nat.le_of_ble_eq_true rfl) rfl (bhd rfl)
theorem bk169_14 {w : am_Wd} {l0 : Nat} {l1 : Int32} {l2 : Int32} {l3 : Int32} : am_run 169 14 [some (.ref l0), some (.int l1), some (.int l2), some (.int l3)] [] w = if l3 = (nI 0) then am_run 169 40 [some (.ref l0), some (.int l1), some (.int l2), none] [] w else if l3 = (nI 1) then am_run 169 50 [some (.ref l0), some (.int l1), some (.int l2), none] [] w else am_run 169 67 [some (.ref l0), some (.int l1), some (.int l2), none] [] w := by
  refine (bu (ls'' := [some (.ref l0), some (.int l1), some (.int l2), none]) (st' := [.int l3]) bf169_14 bf169_15 rfl rfl).trans ?_
  refine bsw (fun q => ?_) (fun q0 => ?_)
  · exact bu (ls' := [some (.ref l0), some (.int l1), some (.int l2), none]) (ls'' := [some (.ref l0), some (.int l1), some (.int l2), none]) (st' := []) bf169_15 bf169_40 (by rw [q]; rfl) rfl
  refine bsw (fun q => ?_) (fun q1 => ?_)
  · exact bu (ls' := [some (.ref l0), some (.int l1), some (.int l2), none]) (ls'' := [some (.ref l0), some (.int l1), some (.int l2), none]) (st' := []) bf169_15 bf169_50 (by rw [q]; rfl) rfl
  exact bsl bf169_15 bf169_67 rfl rfl (bcon (by rfl) q0 (bcon (by rfl) q1 (bnil))) rfl
theorem bk169_40 {w : am_Wd} {l0 : Nat} {l1 : Int32} {l2 : Int32} : am_run 169 40 [some (.ref l0), some (.int l1), some (.int l2), none] [] w = (am_gf w l0 8 0).bind fun v => am_run 169 44 [none, some (.int l1), some (.int l2), none] (v :: []) w := by
  refine (bu (ls'' := [none, some (.int l1), some (.int l2), none]) (st' := [.ref l0]) bf169_40 bf169_41 rfl rfl).trans ?_
  exact bh bf169_41 bf169_44 rfl (fun _ _ => am_ge_rf w) rfl
theorem bk169_50 {w : am_Wd} {l0 : Nat} {l1 : Int32} {l2 : Int32} : am_run 169 50 [some (.ref l0), some (.int l1), some (.int l2), none] [] w = (am_gf w l0 8 0).bind fun v => am_run 169 54 [some (.ref l0), some (.int l1), some (.int l2), none] (v :: []) w := by
  refine (bu (ls'' := [some (.ref l0), some (.int l1), some (.int l2), none]) (st' := [.ref l0]) bf169_50 bf169_51 rfl rfl).trans ?_
  exact bh bf169_51 bf169_54 rfl (fun _ _ => am_ge_rf w) rfl
theorem bk169_67 {w : am_Wd} {l0 : Nat} {l1 : Int32} {l2 : Int32} : am_run 169 67 [some (.ref l0), some (.int l1), some (.int l2), none] [] w = (am_gf w l0 8 0).bind fun v => am_run 169 71 [none, some (.int l1), some (.int l2), none] (v :: []) w := by
  refine (bu (ls'' := [none, some (.int l1), some (.int l2), none]) (st' := [.ref l0]) bf169_67 bf169_68 rfl rfl).trans ?_
  exact bh bf169_68 bf169_71 rfl (fun _ _ => am_ge_rf w) rfl
theorem bk169_44 {w : am_Wd} {l1 : Int32} {l2 : Int32} {s0 : Nat} : am_run 169 44 [none, some (.int l1), some (.int l2), none] [.ref s0] w = (am_kf w s0 5).bind fun _ => (am_x 124 [.ref s0, .int l1, .int l2] w).bind fun r => bct r fun v w' => am_run 169 49 [none, none, none, none] (v.toList ++ []) w' := by
  refine (bu (ls'' := [none, none, some (.int l2), none]) (st' := [.int l1, .ref s0]) bf169_44 bf169_45 rfl rfl).trans ?_
  refine (bu (ls'' := [none, none, none, none]) (st' := [.int l2, .int l1, .ref s0]) bf169_45 bf169_46 rfl rfl).trans ?_
  exact bkV bf169_46 bf169_49 rfl (by decide +kernel) (Nat.le_of_ble_eq_true rfl) rfl (bhd rfl)
theorem bk169_54 {w : am_Wd} {l0 : Nat} {l1 : Int32} {l2 : Int32} {s0 : Nat} : am_run 169 54 [some (.ref l0), some (.int l1), some (.int l2), none] [.ref s0] w = (am_kf w l0 8).bind fun _ => (am_x 33 [.ref l0] w).bind fun r => bct r fun v w' => am_run 169 60 [none, none, none, none] (v.toList ++ [.int l2, .int l1, .ref s0]) w' := by
  refine (bu (ls'' := [some (.ref l0), none, some (.int l2), none]) (st' := [.int l1, .ref s0]) bf169_54 bf169_55 rfl rfl).trans ?_
  refine (bu (ls'' := [some (.ref l0), none, none, none]) (st' := [.int l2, .int l1, .ref s0]) bf169_55 bf169_56 rfl rfl).trans ?_
  refine (bu (ls'' := [none, none, none, none]) (st' := [.ref l0, .int l2, .int l1, .ref s0]) bf169_56 bf169_57 rfl rfl).trans ?_
  exact bkV bf169_57 bf169_60 rfl (by decide +kernel) (Nat.le_of_ble_eq_true rfl) rfl (bhd rfl)
theorem bk169_71 {w : am_Wd} {l1 : Int32} {l2 : Int32} {s0 : Nat} : am_run 169 71 [none, some (.int l1), some (.int l2), none] [.ref s0] w = (am_kf w s0 5).bind fun _ => (am_x 125 [.ref s0, .int l1, .int l2] w).bind fun r => bct r fun v w' => am_run 169 76 [none, none, none, none] (v.toList ++ []) w' := by
  refine (bu (ls'' := [none, none, some (.int l2), none]) (st' := [.int l1, .ref s0]) bf169_71 bf169_72 rfl rfl).trans ?_
  refine (bu (ls'' := [none, none, none, none]) (st' := [.int l2, .int l1, .ref s0]) bf169_72 bf169_73 rfl rfl).trans ?_
  exact bkV bf169_73 bf169_76 rfl (by decide +kernel) (Nat.le_of_ble_eq_true rfl) rfl (bhd rfl)
theorem bk169_49 {w : am_Wd} {s0 : Int32} : am_run 169 49 [none, none, none, none] [.int s0] w = some (.inl (some (.int s0)), w) := by
  exact am_e2 bf169_49 rfl (am_ge_rf w)
theorem bk169_60 {w : am_Wd} {s0 : Int32} {s1 : Int32} {s2 : Int32} {s3 : Nat} : am_run 169 60 [none, none, none, none] [.int s0, .int s1, .int s2, .ref s3] w = (am_kf w s3 5).bind fun _ => (am_x 126 [.ref s3, .int s2, .int s1, .int s0] w).bind fun r => bct r fun v w' => am_run 169 63 [none, none, none, none] (v.toList ++ []) w' := by
  exact bkV bf169_60 bf169_63 rfl (by decide +kernel) (Nat.le_of_ble_eq_true rfl) rfl (bhd rfl)
theorem bk169_76 {w : am_Wd} {s0 : Int32} : am_run 169 76 [none, none, none, none] [.int s0] w = some (.inl (some (.int s0)), w) := by
  exact am_e2 bf169_76 rfl (am_ge_rf w)
theorem bk169_63 {w : am_Wd} {s0 : Int32} : am_run 169 63 [none, none, none, none] [.int s0] w = (am_x 26 [.int s0] w).bind fun r => bct r fun v w' => am_run 169 66 [none, none, none, none] (v.toList ++ []) w' := by
  exact bkS bf169_63 bf169_66 rfl (by decide +kernel) (Nat.le_of_ble_eq_true rfl) rfl (bhd rfl)
theorem bk169_66 {w : am_Wd} {s0 : Int32} : am_run 169 66 [none, none, none, none] [.int s0] w = some (.inl (some (.int s0)), w) := by
  exact am_e2 bf169_66 rfl (am_ge_rf w)
theorem bf171_0 : am_fetch (am_mth 171) 0 = some (.aload_n 1, 1, [], [2, 3]) := by decide +kernel
theorem bf171_1 : am_fetch (am_mth 171) 1 = some (.getfield 133, 3, [1, 6, 2, 305], [1, 2, 3]) := by decide +kernel
theorem bf171_4 : am_fetch (am_mth 171) 4 = some (.invokevirtual 358, 3, [0, 118, 0, 4, 592, 501, 502, 30], [1, 2, 3]) := by decide +kernel
theorem bf171_7 : am_fetch (am_mth 171) 7 = some (.istore_n 2, 1, [], [1, 2, 3]) := by decide +kernel
theorem bf171_8 : am_fetch (am_mth 171) 8 = some (.iload_n 2, 1, [], [1, 3]) := by decide +kernel
theorem bf171_9 : am_fetch (am_mth 171) 9 = some (.iconst (-1), 1, [], [1, 3]) := by decide +kernel
theorem bf171_10 : am_fetch (am_mth 171) 10 = some (.if_icmp .ne 5, 3, [], [1, 3]) := by decide +kernel
theorem bf171_13 : am_fetch (am_mth 171) 13 = some (.iconst 0, 1, [], [0, 1, 2, 3]) := by decide +kernel
theorem bf171_14 : am_fetch (am_mth 171) 14 = some (.ireturn, 1, [1], [0, 1, 2, 3]) := by decide +kernel
theorem bf171_15 : am_fetch (am_mth 171) 15 = some (.iload_n 2, 1, [], [1, 3]) := by decide +kernel
theorem bf171_16 : am_fetch (am_mth 171) 16 = some (.iconst 4, 1, [], [1, 3]) := by decide +kernel
theorem bf171_17 : am_fetch (am_mth 171) 17 = some (.idiv, 1, [], [1, 3]) := by decide +kernel
theorem bf171_18 : am_fetch (am_mth 171) 18 = some (.iload_n 2, 1, [], [1, 3]) := by decide +kernel
theorem bf171_19 : am_fetch (am_mth 171) 19 = some (.iconst 4, 1, [], [1, 2, 3]) := by decide +kernel
theorem bf171_20 : am_fetch (am_mth 171) 20 = some (.irem, 1, [], [1, 2, 3]) := by decide +kernel
theorem bf171_21 : am_fetch (am_mth 171) 21 = some (.invokestatic 33, 3, [0, 13, 2, 593, 174, 23], [1, 2, 3]) := by decide +kernel
theorem bf171_24 : am_fetch (am_mth 171) 24 = some (.istore_n 3, 1, [], [1, 2, 3]) := by decide +kernel
theorem bf171_25 : am_fetch (am_mth 171) 25 = some (.iload_n 3, 1, [], [1, 2]) := by decide +kernel
theorem bf171_26 : am_fetch (am_mth 171) 26 = some (.iconst (-1), 1, [], [1, 2]) := by decide +kernel
theorem bf171_27 : am_fetch (am_mth 171) 27 = some (.if_icmp .eq 21, 3, [], [1, 2]) := by decide +kernel
theorem bf171_30 : am_fetch (am_mth 171) 30 = some (.aload_n 0, 1, [], [1, 2]) := by decide +kernel
theorem bf171_31 : am_fetch (am_mth 171) 31 = some (.getfield 10, 3, [0, 8, 0, 63], [0, 1, 2]) := by decide +kernel
theorem bf171_34 : am_fetch (am_mth 171) 34 = some (.getfield 66, 3, [1, 5, 3, 49], [0, 1, 2]) := by decide +kernel
theorem bf171_37 : am_fetch (am_mth 171) 37 = some (.iload_n 3, 1, [], [0, 1, 2]) := by decide +kernel
theorem bf171_38 : am_fetch (am_mth 171) 38 = some (.invokestatic 361, 3, [0, 11, 2, 594, 361, 23], [0, 1, 2, 3]) := by decide +kernel
theorem bf171_41 : am_fetch (am_mth 171) 41 = some (.ifCond .eq 7, 3, [], [0, 1, 2, 3]) := by decide +kernel
theorem bf171_44 : am_fetch (am_mth 171) 44 = some (.iconst 1, 1, [], [0, 1, 2, 3]) := by decide +kernel
theorem bf171_45 : am_fetch (am_mth 171) 45 = some (.goto 4, 3, [], [0, 1, 2, 3]) := by decide +kernel
theorem bf171_48 : am_fetch (am_mth 171) 48 = some (.iconst 0, 1, [], [0, 1, 2, 3]) := by decide +kernel
theorem bf171_49 : am_fetch (am_mth 171) 49 = some (.ireturn, 1, [1], [0, 1, 2, 3]) := by decide +kernel
theorem bk171_0 {w : am_Wd} {l0 : Nat} {l1 : Nat} : am_run 171 0 [some (.ref l0), some (.ref l1), none, none] [] w = (am_gf w l1 6 2).bind fun v => am_run 171 4 [some (.ref l0), none, none, none] (v :: []) w := by
  refine (bu (ls'' := [some (.ref l0), none, none, none]) (st' := [.ref l1]) bf171_0 bf171_1 rfl rfl).trans ?_
  exact bh bf171_1 bf171_4 rfl (fun _ _ => am_ge_rf w) rfl
theorem bk171_4 {w : am_Wd} {l0 : Nat} {s0 : Nat} : am_run 171 4 [some (.ref l0), none, none, none] [.ref s0] w = (am_kf w s0 4).bind fun _ => (am_x 118 [.ref s0] w).bind fun r => bct r fun v w' => am_run 171 7 [some (.ref l0), none, none, none] (v.toList ++ []) w' := by
  exact bkV bf171_4 bf171_7 rfl (by decide +kernel) (Nat.le_of_ble_eq_true rfl) rfl (bhd rfl)
theorem bk171_7 {w : am_Wd} {l0 : Nat} {s0 : Int32} : am_run 171 7 [some (.ref l0), none, none, none] [.int s0] w = if ¬ s0 = (-1 : Int32) then am_run 171 15 [some (.ref l0), none, some (.int s0), none] [] w else am_run 171 13 [none, none, none, none] [] w := by
  refine (bu (ls'' := [some (.ref l0), none, some (.int s0), none]) (st' := []) bf171_7 bf171_8 rfl rfl).trans ?_
  refine (bu (ls'' := [some (.ref l0), none, some (.int s0), none]) (st' := [.int s0]) bf171_8 bf171_9 rfl rfl).trans ?_
  refine (bu (ls'' := [some (.ref l0), none, some (.int s0), none]) (st' := [.int (-1 : Int32), .int s0]) bf171_9 bf171_10 rfl rfl).trans ?_
  exact bic bf171_10 rfl bf171_15 bf171_13 rfl rfl rfl
theorem bk171_15 {w : am_Wd} {l0 : Nat} {l2 : Int32} : am_run 171 15 [some (.ref l0), none, some (.int l2), none] [] w = (am_x 13 [.int (l2 / (nI 4)), .int (bj_irem l2 (nI 4))] w).bind fun r => bct r fun v w' => am_run 171 24 [some (.ref l0), none, none, none] (v.toList ++ []) w' := by
  refine (bu (ls'' := [some (.ref l0), none, some (.int l2), none]) (st' := [.int l2]) bf171_15 bf171_16 rfl rfl).trans ?_
  refine (bu (ls'' := [some (.ref l0), none, some (.int l2), none]) (st' := [.int (nI 4), .int l2]) bf171_16 bf171_17 rfl rfl).trans ?_
  refine (bu (ls'' := [some (.ref l0), none, some (.int l2), none]) (st' := [.int (l2 / (nI 4))]) bf171_17 bf171_18 rfl rfl).trans ?_
  refine (bu (ls'' := [some (.ref l0), none, none, none]) (st' := [.int l2, .int (l2 / (nI 4))]) bf171_18 bf171_19 rfl rfl).trans ?_
  refine (bu (ls'' := [some (.ref l0), none, none, none]) (st' := [.int (nI 4), .int l2, .int (l2 / (nI 4))]) bf171_19 bf171_20 rfl rfl).trans ?_
  refine (bu (ls'' := [some (.ref l0), none, none, none]) (st' := [.int (bj_irem l2 (nI 4)), .int (l2 / (nI 4))]) bf171_20 bf171_21 rfl rfl).trans ?_
  exact bkS bf171_21 bf171_24 rfl (by decide +kernel) (Nat.le_of_ble_eq_true rfl) rfl (bhd rfl)
theorem bk171_13 {w : am_Wd}  : am_run 171 13 [none, none, none, none] [] w = some (.inl (some (.int (nI 0))), w) := by
  refine (bu (ls'' := [none, none, none, none]) (st' := [.int (nI 0)]) bf171_13 bf171_14 rfl rfl).trans ?_
  exact am_e2 bf171_14 rfl (am_ge_rf w)
theorem bk171_24 {w : am_Wd} {l0 : Nat} {s0 : Int32} : am_run 171 24 [some (.ref l0), none, none, none] [.int s0] w = if s0 = (-1 : Int32) then am_run 171 48 [none, none, none, none] [] w else am_run 171 30 [some (.ref l0), none, none, some (.int s0)] [] w := by
  refine (bu (ls'' := [some (.ref l0), none, none, some (.int s0)]) (st' := []) bf171_24 bf171_25 rfl rfl).trans ?_
  refine (bu (ls'' := [some (.ref l0), none, none, some (.int s0)]) (st' := [.int s0]) bf171_25 bf171_26 rfl rfl).trans ?_
  refine (bu (ls'' := [some (.ref l0), none, none, some (.int s0)]) (st' := [.int (-1 : Int32), .int s0]) bf171_26 bf171_27 rfl rfl).trans ?_
  exact bic bf171_27 rfl bf171_48 bf171_30 rfl rfl rfl
theorem bk171_48 {w : am_Wd}  : am_run 171 48 [none, none, none, none] [] w = am_run 171 49 [none, none, none, none] [.int (nI 0)] w := by
  refine (bu (ls'' := [none, none, none, none]) (st' := [.int (nI 0)]) bf171_48 bf171_49 rfl rfl).trans ?_
  rfl
theorem bk171_30 {w : am_Wd} {l0 : Nat} {l3 : Int32} : am_run 171 30 [some (.ref l0), none, none, some (.int l3)] [] w = (am_gf w l0 8 0).bind fun v => am_run 171 34 [none, none, none, some (.int l3)] (v :: []) w := by
  refine (bu (ls'' := [none, none, none, some (.int l3)]) (st' := [.ref l0]) bf171_30 bf171_31 rfl rfl).trans ?_
  exact bh bf171_31 bf171_34 rfl (fun _ _ => am_ge_rf w) rfl
theorem bk171_49 {w : am_Wd} {s0 : Int32} (hb : am_ok (am_rt 1) (.int s0) = true) : am_run 171 49 [none, none, none, none] [.int s0] w = some (.inl (some (.int s0)), w) := by
  exact am_e2 bf171_49 (by unfold am_stp; exact if_pos ⟨by decide, hb⟩) (am_ge_rf w)
theorem bk171_34 {w : am_Wd} {l3 : Int32} {s0 : Nat} : am_run 171 34 [none, none, none, some (.int l3)] [.ref s0] w = (am_gf w s0 5 3).bind fun v => am_run 171 37 [none, none, none, some (.int l3)] (v :: []) w := by
  exact bh bf171_34 bf171_37 rfl (fun _ _ => am_ge_rf w) rfl
theorem bk171_37 {w : am_Wd} {l3 : Int32} {s0 : Int64} : am_run 171 37 [none, none, none, some (.int l3)] [.long s0] w = (am_x 11 [.long s0, .int l3] w).bind fun r => bct r fun v w' => am_run 171 41 [none, none, none, none] (v.toList ++ []) w' := by
  refine (bu (ls'' := [none, none, none, none]) (st' := [.int l3, .long s0]) bf171_37 bf171_38 rfl rfl).trans ?_
  exact bkS bf171_38 bf171_41 rfl (by decide +kernel) (Nat.le_of_ble_eq_true rfl) rfl (bhd rfl)
theorem bk171_41 {w : am_Wd} {s0 : Int32} : am_run 171 41 [none, none, none, none] [.int s0] w = if s0 = nI 0 then am_run 171 48 [none, none, none, none] [] w else am_run 171 44 [none, none, none, none] [] w := by
  exact bifc bf171_41 rfl bf171_48 bf171_44 rfl rfl rfl
theorem bk171_44 {w : am_Wd}  : am_run 171 44 [none, none, none, none] [] w = am_run 171 49 [none, none, none, none] [.int (nI 1)] w := by
  refine (bu (ls'' := [none, none, none, none]) (st' := [.int (nI 1)]) bf171_44 bf171_45 rfl rfl).trans ?_
  refine (bu (ls'' := [none, none, none, none]) (st' := [.int (nI 1)]) bf171_45 bf171_49 rfl rfl).trans ?_
  rfl
theorem bf199_0 : am_fetch (am_mth 199) 0 = some (.aload_n 0, 1, [], [1]) := by decide +kernel
theorem bf199_1 : am_fetch (am_mth 199) 1 = some (.invokevirtual 91, 3, [0, 162, 0, 6, 514, 497, 498, 28], [1]) := by decide +kernel
theorem bf199_4 : am_fetch (am_mth 199) 4 = some (.invokestatic 94, 3, [0, 19, 1, 515, 508, 28], [1]) := by decide +kernel
theorem bf199_7 : am_fetch (am_mth 199) 7 = some (.istore_n 1, 1, [], [1]) := by decide +kernel
theorem bf199_8 : am_fetch (am_mth 199) 8 = some (.iload_n 1, 1, [], []) := by decide +kernel
theorem bf199_9 : am_fetch (am_mth 199) 9 = some (.ifCond .ge 20, 3, [], []) := by decide +kernel
theorem bf199_12 : am_fetch (am_mth 199) 12 = some (.aload_n 0, 1, [], [1]) := by decide +kernel
theorem bf199_13 : am_fetch (am_mth 199) 13 = some (.getfield 32, 3, [0, 6, 4, 307], [0, 1]) := by decide +kernel
theorem bf199_16 : am_fetch (am_mth 199) 16 = some (.bipush 20, 2, [], [0, 1]) := by decide +kernel
theorem bf199_18 : am_fetch (am_mth 199) 18 = some (.if_icmp .le 7, 3, [], [0, 1]) := by decide +kernel
theorem bf199_21 : am_fetch (am_mth 199) 21 = some (.iconst 1, 1, [], [0, 1]) := by decide +kernel
theorem bf199_22 : am_fetch (am_mth 199) 22 = some (.goto 22, 3, [], [0, 1]) := by decide +kernel
theorem bf199_25 : am_fetch (am_mth 199) 25 = some (.iconst 0, 1, [], [0, 1]) := by decide +kernel
theorem bf199_26 : am_fetch (am_mth 199) 26 = some (.goto 18, 3, [], [0, 1]) := by decide +kernel
theorem bf199_29 : am_fetch (am_mth 199) 29 = some (.aload_n 0, 1, [], []) := by decide +kernel
theorem bf199_30 : am_fetch (am_mth 199) 30 = some (.getfield 32, 3, [0, 6, 4, 307], [0]) := by decide +kernel
theorem bf199_33 : am_fetch (am_mth 199) 33 = some (.iconst 1, 1, [], [0]) := by decide +kernel
theorem bf199_34 : am_fetch (am_mth 199) 34 = some (.isub, 1, [], [0]) := by decide +kernel
theorem bf199_35 : am_fetch (am_mth 199) 35 = some (.iload_n 1, 1, [], [0]) := by decide +kernel
theorem bf199_36 : am_fetch (am_mth 199) 36 = some (.if_icmp .lt 7, 3, [], [0, 1]) := by decide +kernel
theorem bf199_39 : am_fetch (am_mth 199) 39 = some (.iconst 1, 1, [], [0, 1]) := by decide +kernel
theorem bf199_40 : am_fetch (am_mth 199) 40 = some (.goto 4, 3, [], [0, 1]) := by decide +kernel
theorem bf199_43 : am_fetch (am_mth 199) 43 = some (.iconst 0, 1, [], [0, 1]) := by decide +kernel
theorem bf199_44 : am_fetch (am_mth 199) 44 = some (.ireturn, 1, [1], [0, 1]) := by decide +kernel
theorem bk199_0 {w : am_Wd} {l0 : Nat} : am_run 199 0 [some (.ref l0), none] [] w = (am_kf w l0 6).bind fun _ => (am_x 162 [.ref l0] w).bind fun r => bct r fun v w' => am_run 199 4 [some (.ref l0), none] (v.toList ++ []) w' := by
  refine (bu (ls'' := [some (.ref l0), none]) (st' := [.ref l0]) bf199_0 bf199_1 rfl rfl).trans ?_
  exact bkV bf199_1 bf199_4 rfl (by decide +kernel) (Nat.le_of_ble_eq_true rfl) rfl (bhd rfl)
theorem bk199_4 {w : am_Wd} {l0 : Nat} {s0 : Int32} : am_run 199 4 [some (.ref l0), none] [.int s0] w = (am_x 19 [.int s0] w).bind fun r => bct r fun v w' => am_run 199 7 [some (.ref l0), none] (v.toList ++ []) w' := by
  exact bkS bf199_4 bf199_7 rfl (by decide +kernel) (Nat.le_of_ble_eq_true rfl) rfl (bhd rfl)
theorem bk199_7 {w : am_Wd} {l0 : Nat} {s0 : Int32} : am_run 199 7 [some (.ref l0), none] [.int s0] w = if nI 0 ≤ s0 then am_run 199 29 [some (.ref l0), some (.int s0)] [] w else am_run 199 12 [some (.ref l0), none] [] w := by
  refine (bu (ls'' := [some (.ref l0), some (.int s0)]) (st' := []) bf199_7 bf199_8 rfl rfl).trans ?_
  refine (bu (ls'' := [some (.ref l0), some (.int s0)]) (st' := [.int s0]) bf199_8 bf199_9 rfl rfl).trans ?_
  exact bifc bf199_9 rfl bf199_29 bf199_12 rfl rfl rfl
theorem bk199_29 {w : am_Wd} {l0 : Nat} {l1 : Int32} : am_run 199 29 [some (.ref l0), some (.int l1)] [] w = (am_gf w l0 6 4).bind fun v => am_run 199 33 [none, some (.int l1)] (v :: []) w := by
  refine (bu (ls'' := [none, some (.int l1)]) (st' := [.ref l0]) bf199_29 bf199_30 rfl rfl).trans ?_
  exact bh bf199_30 bf199_33 rfl (fun _ _ => am_ge_rf w) rfl
theorem bk199_12 {w : am_Wd} {l0 : Nat} : am_run 199 12 [some (.ref l0), none] [] w = (am_gf w l0 6 4).bind fun v => am_run 199 16 [none, none] (v :: []) w := by
  refine (bu (ls'' := [none, none]) (st' := [.ref l0]) bf199_12 bf199_13 rfl rfl).trans ?_
  exact bh bf199_13 bf199_16 rfl (fun _ _ => am_ge_rf w) rfl
theorem bk199_33 {w : am_Wd} {l1 : Int32} {s0 : Int32} : am_run 199 33 [none, some (.int l1)] [.int s0] w = if (s0 - (nI 1)) < l1 then am_run 199 43 [none, none] [] w else am_run 199 39 [none, none] [] w := by
  refine (bu (ls'' := [none, some (.int l1)]) (st' := [.int (nI 1), .int s0]) bf199_33 bf199_34 rfl rfl).trans ?_
  refine (bu (ls'' := [none, some (.int l1)]) (st' := [.int (s0 - (nI 1))]) bf199_34 bf199_35 rfl rfl).trans ?_
  refine (bu (ls'' := [none, none]) (st' := [.int l1, .int (s0 - (nI 1))]) bf199_35 bf199_36 rfl rfl).trans ?_
  exact bic bf199_36 rfl bf199_43 bf199_39 rfl rfl rfl
theorem bk199_16 {w : am_Wd} {s0 : Int32} : am_run 199 16 [none, none] [.int s0] w = if s0 ≤ (nI 20) then am_run 199 25 [none, none] [] w else am_run 199 21 [none, none] [] w := by
  refine (bu (ls'' := [none, none]) (st' := [.int (nI 20), .int s0]) bf199_16 bf199_18 rfl rfl).trans ?_
  exact bic bf199_18 rfl bf199_25 bf199_21 rfl rfl rfl
theorem bk199_43 {w : am_Wd}  : am_run 199 43 [none, none] [] w = am_run 199 44 [none, none] [.int (nI 0)] w := by
  refine (bu (ls'' := [none, none]) (st' := [.int (nI 0)]) bf199_43 bf199_44 rfl rfl).trans ?_
  rfl
theorem bk199_39 {w : am_Wd}  : am_run 199 39 [none, none] [] w = am_run 199 44 [none, none] [.int (nI 1)] w := by
  refine (bu (ls'' := [none, none]) (st' := [.int (nI 1)]) bf199_39 bf199_40 rfl rfl).trans ?_
  refine (bu (ls'' := [none, none]) (st' := [.int (nI 1)]) bf199_40 bf199_44 rfl rfl).trans ?_
  rfl
theorem bk199_25 {w : am_Wd}  : am_run 199 25 [none, none] [] w = am_run 199 44 [none, none] [.int (nI 0)] w := by
  refine (bu (ls'' := [none, none]) (st' := [.int (nI 0)]) bf199_25 bf199_26 rfl rfl).trans ?_
  refine (bu (ls'' := [none, none]) (st' := [.int (nI 0)]) bf199_26 bf199_44 rfl rfl).trans ?_
  rfl
theorem bk199_21 {w : am_Wd}  : am_run 199 21 [none, none] [] w = am_run 199 44 [none, none] [.int (nI 1)] w := by
  refine (bu (ls'' := [none, none]) (st' := [.int (nI 1)]) bf199_21 bf199_22 rfl rfl).trans ?_
  refine (bu (ls'' := [none, none]) (st' := [.int (nI 1)]) bf199_22 bf199_44 rfl rfl).trans ?_
  rfl
theorem bk199_44 {w : am_Wd} {s0 : Int32} (hb : am_ok (am_rt 1) (.int s0) = true) : am_run 199 44 [none, none] [.int s0] w = some (.inl (some (.int s0)), w) := by
  exact am_e2 bf199_44 (by unfold am_stp; exact if_pos ⟨by decide, hb⟩) (am_ge_rf w)
theorem bf200_0 : am_fetch (am_mth 200) 0 = some (.iload_n 1, 1, [], []) := by decide +kernel
theorem bf200_1 : am_fetch (am_mth 200) 1 = some (.iconst 0, 1, [], []) := by decide +kernel
theorem bf200_2 : am_fetch (am_mth 200) 2 = some (.bipush 126, 2, [], []) := by decide +kernel
theorem bf200_4 : am_fetch (am_mth 200) 4 = some (.invokestatic 43, 3, [0, 92, 3, 95, 96, 17], []) := by decide +kernel
theorem bf200_7 : am_fetch (am_mth 200) 7 = some (.aload_n 0, 1, [], []) := by decide +kernel
theorem bf200_8 : am_fetch (am_mth 200) 8 = some (.getfield 10, 3, [0, 8, 0, 63], []) := by decide +kernel
theorem bf200_11 : am_fetch (am_mth 200) 11 = some (.iload_n 1, 1, [], []) := by decide +kernel
theorem bf200_12 : am_fetch (am_mth 200) 12 = some (.invokevirtual 55, 3, [0, 157, 1, 5, 169, 170, 171, 18], [1]) := by decide +kernel
theorem bf200_15 : am_fetch (am_mth 200) 15 = some (.aload_n 0, 1, [], [1]) := by decide +kernel
theorem bf200_16 : am_fetch (am_mth 200) 16 = some (.getfield 10, 3, [0, 8, 0, 63], [0, 1]) := by decide +kernel
theorem bf200_19 : am_fetch (am_mth 200) 19 = some (.iconst 1, 1, [], [0, 1]) := by decide +kernel
theorem bf200_20 : am_fetch (am_mth 200) 20 = some (.invokevirtual 58, 3, [0, 10, 1, 5, 192, 193, 194, 18], [0, 1]) := by decide +kernel
theorem bf200_23 : am_fetch (am_mth 200) 23 = some (.ireturn, 1, [0], [0, 1]) := by decide +kernel
theorem bk200_0 {w : am_Wd} {l0 : Nat} {l1 : Int32} : am_run 200 0 [some (.ref l0), some (.int l1)] [] w = (am_x 92 [.int l1, .int (nI 0), .int (nI 126)] w).bind fun r => bct r fun v w' => am_run 200 7 [some (.ref l0), some (.int l1)] (v.toList ++ []) w' := by
  refine (bu (ls'' := [some (.ref l0), some (.int l1)]) (st' := [.int l1]) bf200_0 bf200_1 rfl rfl).trans ?_
  refine (bu (ls'' := [some (.ref l0), some (.int l1)]) (st' := [.int (nI 0), .int l1]) bf200_1 bf200_2 rfl rfl).trans ?_
  refine (bu (ls'' := [some (.ref l0), some (.int l1)]) (st' := [.int (nI 126), .int (nI 0), .int l1]) bf200_2 bf200_4 rfl rfl).trans ?_
  exact bkS bf200_4 bf200_7 rfl (by decide +kernel) (Nat.le_of_ble_eq_true rfl) rfl (bhd rfl)
theorem bk200_7 {w : am_Wd} {l0 : Nat} {l1 : Int32} : am_run 200 7 [some (.ref l0), some (.int l1)] [] w = (am_gf w l0 8 0).bind fun v => am_run 200 11 [some (.ref l0), some (.int l1)] (v :: []) w := by
  refine (bu (ls'' := [some (.ref l0), some (.int l1)]) (st' := [.ref l0]) bf200_7 bf200_8 rfl rfl).trans ?_
  exact bh bf200_8 bf200_11 rfl (fun _ _ => am_ge_rf w) rfl
theorem bk200_11 {w : am_Wd} {l0 : Nat} {l1 : Int32} {s0 : Nat} : am_run 200 11 [some (.ref l0), some (.int l1)] [.ref s0] w = (am_kf w s0 5).bind fun _ => (am_x 157 [.ref s0, .int l1] w).bind fun r => bct r fun v w' => am_run 200 15 [some (.ref l0), none] (v.toList ++ []) w' := by
  refine (bu (ls'' := [some (.ref l0), none]) (st' := [.int l1, .ref s0]) bf200_11 bf200_12 rfl rfl).trans ?_
  exact bkV bf200_12 bf200_15 rfl (by decide +kernel) (Nat.le_of_ble_eq_true rfl) rfl (bhd rfl)
theorem bk200_15 {w : am_Wd} {l0 : Nat} : am_run 200 15 [some (.ref l0), none] [] w = (am_gf w l0 8 0).bind fun v => am_run 200 19 [none, none] (v :: []) w := by
  refine (bu (ls'' := [none, none]) (st' := [.ref l0]) bf200_15 bf200_16 rfl rfl).trans ?_
  exact bh bf200_16 bf200_19 rfl (fun _ _ => am_ge_rf w) rfl
theorem bk200_19 {w : am_Wd} {s0 : Nat} : am_run 200 19 [none, none] [.ref s0] w = (am_kf w s0 5).bind fun _ => (am_x 10 [.ref s0, .int (nI 1)] w).bind fun r => bct r fun v w' => am_run 200 23 [none, none] (v.toList ++ []) w' := by
  refine (bu (ls'' := [none, none]) (st' := [.int (nI 1), .ref s0]) bf200_19 bf200_20 rfl rfl).trans ?_
  exact bkV bf200_20 bf200_23 rfl (by decide +kernel) (Nat.le_of_ble_eq_true rfl) rfl (bhd rfl)
theorem bk200_23 {w : am_Wd} {s0 : Int32} : am_run 200 23 [none, none] [.int s0] w = some (.inl (some (.int s0)), w) := by
  exact am_e2 bf200_23 rfl (am_ge_rf w)
theorem bf201_0 : am_fetch (am_mth 201) 0 = some (.aload_n 0, 1, [], [3]) := by decide +kernel
theorem bf201_1 : am_fetch (am_mth 201) 1 = some (.iload_n 1, 1, [], [3]) := by decide +kernel
theorem bf201_2 : am_fetch (am_mth 201) 2 = some (.invokevirtual 89, 3, [0, 31, 1, 8, 343, 345, 1, 17], [1, 3]) := by decide +kernel
theorem bf201_5 : am_fetch (am_mth 201) 5 = some (.astore_n 3, 1, [], [1, 3]) := by decide +kernel
theorem bf201_6 : am_fetch (am_mth 201) 6 = some (.iload_n 2, 1, [], [1]) := by decide +kernel
theorem bf201_7 : am_fetch (am_mth 201) 7 = some (.iconst 0, 1, [], [1]) := by decide +kernel
theorem bf201_8 : am_fetch (am_mth 201) 8 = some (.bipush 12, 2, [], [1]) := by decide +kernel
theorem bf201_10 : am_fetch (am_mth 201) 10 = some (.invokestatic 43, 3, [0, 92, 3, 95, 96, 17], [1]) := by decide +kernel
theorem bf201_13 : am_fetch (am_mth 201) 13 = some (.iload_n 2, 1, [], [1]) := by decide +kernel
theorem bf201_14 : am_fetch (am_mth 201) 14 = some (.lookupswitch 60 #[(7, 26), (8, 43)], 26, [], [1]) := by decide +kernel
theorem bf201_40 : am_fetch (am_mth 201) 40 = some (.aload_n 0, 1, [], [1, 2]) := by decide +kernel
theorem bf201_41 : am_fetch (am_mth 201) 41 = some (.getfield 10, 3, [0, 8, 0, 63], [1, 2]) := by decide +kernel
theorem bf201_44 : am_fetch (am_mth 201) 44 = some (.aload_n 3, 1, [], [1, 2]) := by decide +kernel
theorem bf201_45 : am_fetch (am_mth 201) 45 = some (.getfield 179, 3, [1, 6, 1, 303], [1, 2, 3]) := by decide +kernel
theorem bf201_48 : am_fetch (am_mth 201) 48 = some (.iconst 1, 1, [], [1, 2, 3]) := by decide +kernel
theorem bf201_49 : am_fetch (am_mth 201) 49 = some (.aload_n 0, 1, [], [1, 2, 3]) := by decide +kernel
theorem bf201_50 : am_fetch (am_mth 201) 50 = some (.invokevirtual 110, 3, [0, 33, 0, 8, 348, 350, 2, 17], [0, 1, 2, 3]) := by decide +kernel
theorem bf201_53 : am_fetch (am_mth 201) 53 = some (.invokevirtual 207, 3, [0, 159, 3, 5, 352, 353, 354, 18], [0, 1, 2, 3]) := by decide +kernel
theorem bf201_56 : am_fetch (am_mth 201) 56 = some (.ireturn, 1, [0], [0, 1, 2, 3]) := by decide +kernel
theorem bf201_57 : am_fetch (am_mth 201) 57 = some (.aload_n 0, 1, [], [1, 2]) := by decide +kernel
theorem bf201_58 : am_fetch (am_mth 201) 58 = some (.getfield 10, 3, [0, 8, 0, 63], [1, 2]) := by decide +kernel
theorem bf201_61 : am_fetch (am_mth 201) 61 = some (.aload_n 3, 1, [], [1, 2]) := by decide +kernel
theorem bf201_62 : am_fetch (am_mth 201) 62 = some (.getfield 179, 3, [1, 6, 1, 303], [1, 2, 3]) := by decide +kernel
theorem bf201_65 : am_fetch (am_mth 201) 65 = some (.iconst 0, 1, [], [1, 2, 3]) := by decide +kernel
theorem bf201_66 : am_fetch (am_mth 201) 66 = some (.aload_n 0, 1, [], [1, 2, 3]) := by decide +kernel
theorem bf201_67 : am_fetch (am_mth 201) 67 = some (.invokevirtual 110, 3, [0, 33, 0, 8, 348, 350, 2, 17], [0, 1, 2, 3]) := by decide +kernel
theorem bf201_70 : am_fetch (am_mth 201) 70 = some (.invokevirtual 207, 3, [0, 159, 3, 5, 352, 353, 354, 18], [0, 1, 2, 3]) := by decide +kernel
theorem bf201_73 : am_fetch (am_mth 201) 73 = some (.ireturn, 1, [0], [0, 1, 2, 3]) := by decide +kernel
theorem bf201_74 : am_fetch (am_mth 201) 74 = some (.aload_n 3, 1, [], [0, 1]) := by decide +kernel
theorem bf201_75 : am_fetch (am_mth 201) 75 = some (.iload_n 2, 1, [], [0, 1, 3]) := by decide +kernel
theorem bf201_76 : am_fetch (am_mth 201) 76 = some (.invokevirtual 211, 3, [0, 165, 1, 6, 373, 374, 375, 28], [0, 1, 2, 3]) := by decide +kernel
theorem bf201_79 : am_fetch (am_mth 201) 79 = some (.ireturn, 1, [0], [0, 1, 2, 3]) := by decide +kernel
theorem bk201_0 {w : am_Wd} {l0 : Nat} {l1 : Int32} {l2 : Int32} : am_run 201 0 [some (.ref l0), some (.int l1), some (.int l2), none] [] w = (am_kf w l0 8).bind fun _ => (am_x 31 [.ref l0, .int l1] w).bind fun r => bct r fun v w' => am_run 201 5 [some (.ref l0), none, some (.int l2), none] (v.toList ++ []) w' := by
  refine (bu (ls'' := [some (.ref l0), some (.int l1), some (.int l2), none]) (st' := [.ref l0]) bf201_0 bf201_1 rfl rfl).trans ?_
  refine (bu (ls'' := [some (.ref l0), none, some (.int l2), none]) (st' := [.int l1, .ref l0]) bf201_1 bf201_2 rfl rfl).trans ?_
  exact bkV bf201_2 bf201_5 rfl (by decide +kernel) (Nat.le_of_ble_eq_true rfl) rfl (bhd rfl)
theorem bk201_5 {w : am_Wd} {l0 : Nat} {l2 : Int32} {s0 : Nat} : am_run 201 5 [some (.ref l0), none, some (.int l2), none] [.ref s0] w = (am_x 92 [.int l2, .int (nI 0), .int (nI 12)] w).bind fun r => bct r fun v w' => am_run 201 13 [some (.ref l0), none, some (.int l2), some (.ref s0)] (v.toList ++ []) w' := by
  refine (bu (ls'' := [some (.ref l0), none, some (.int l2), some (.ref s0)]) (st' := []) bf201_5 bf201_6 rfl rfl).trans ?_
  refine (bu (ls'' := [some (.ref l0), none, some (.int l2), some (.ref s0)]) (st' := [.int l2]) bf201_6 bf201_7 rfl rfl).trans ?_
  refine (bu (ls'' := [some (.ref l0), none, some (.int l2), some (.ref s0)]) (st' := [.int (nI 0), .int l2]) bf201_7 bf201_8 rfl rfl).trans ?_
  refine (bu (ls'' := [some (.ref l0), none, some (.int l2), some (.ref s0)]) (st' := [.int (nI 12), .int (nI 0), .int l2]) bf201_8 bf201_10 rfl rfl).trans ?_
  exact bkS bf201_10 bf201_13 rfl (by decide +kernel) (Nat.le_of_ble_eq_true rfl) rfl (bhd rfl)
theorem bk201_13 {w : am_Wd} {l0 : Nat} {l2 : Int32} {l3 : Nat} : am_run 201 13 [some (.ref l0), none, some (.int l2), some (.ref l3)] [] w = if l2 = (nI 7) then am_run 201 40 [some (.ref l0), none, none, some (.ref l3)] [] w else if l2 = (nI 8) then am_run 201 57 [some (.ref l0), none, none, some (.ref l3)] [] w else am_run 201 74 [none, none, some (.int l2), some (.ref l3)] [] w := by
  refine (bu (ls'' := [some (.ref l0), none, some (.int l2), some (.ref l3)]) (st' := [.int l2]) bf201_13 bf201_14 rfl rfl).trans ?_
  refine bsw (fun q => ?_) (fun q0 => ?_)
  · exact bu (ls' := [some (.ref l0), none, some (.int l2), some (.ref l3)]) (ls'' := [some (.ref l0), none, none, some (.ref l3)]) (st' := []) bf201_14 bf201_40 (by rw [q]; rfl) rfl
  refine bsw (fun q => ?_) (fun q1 => ?_)
  · exact bu (ls' := [some (.ref l0), none, some (.int l2), some (.ref l3)]) (ls'' := [some (.ref l0), none, none, some (.ref l3)]) (st' := []) bf201_14 bf201_57 (by rw [q]; rfl) rfl
  exact bsl bf201_14 bf201_74 rfl rfl (bcon (by rfl) q0 (bcon (by rfl) q1 (bnil))) rfl
theorem bk201_40 {w : am_Wd} {l0 : Nat} {l3 : Nat} : am_run 201 40 [some (.ref l0), none, none, some (.ref l3)] [] w = (am_gf w l0 8 0).bind fun v => am_run 201 44 [some (.ref l0), none, none, some (.ref l3)] (v :: []) w := by
  refine (bu (ls'' := [some (.ref l0), none, none, some (.ref l3)]) (st' := [.ref l0]) bf201_40 bf201_41 rfl rfl).trans ?_
  exact bh bf201_41 bf201_44 rfl (fun _ _ => am_ge_rf w) rfl
theorem bk201_57 {w : am_Wd} {l0 : Nat} {l3 : Nat} : am_run 201 57 [some (.ref l0), none, none, some (.ref l3)] [] w = (am_gf w l0 8 0).bind fun v => am_run 201 61 [some (.ref l0), none, none, some (.ref l3)] (v :: []) w := by
  refine (bu (ls'' := [some (.ref l0), none, none, some (.ref l3)]) (st' := [.ref l0]) bf201_57 bf201_58 rfl rfl).trans ?_
  exact bh bf201_58 bf201_61 rfl (fun _ _ => am_ge_rf w) rfl
theorem bk201_74 {w : am_Wd} {l2 : Int32} {l3 : Nat} : am_run 201 74 [none, none, some (.int l2), some (.ref l3)] [] w = (am_kf w l3 6).bind fun _ => (am_x 165 [.ref l3, .int l2] w).bind fun r => bct r fun v w' => am_run 201 79 [none, none, none, none] (v.toList ++ []) w' := by
  refine (bu (ls'' := [none, none, some (.int l2), none]) (st' := [.ref l3]) bf201_74 bf201_75 rfl rfl).trans ?_
  refine (bu (ls'' := [none, none, none, none]) (st' := [.int l2, .ref l3]) bf201_75 bf201_76 rfl rfl).trans ?_
  exact bkV bf201_76 bf201_79 rfl (by decide +kernel) (Nat.le_of_ble_eq_true rfl) rfl (bhd rfl)
theorem bk201_44 {w : am_Wd} {l0 : Nat} {l3 : Nat} {s0 : Nat} : am_run 201 44 [some (.ref l0), none, none, some (.ref l3)] [.ref s0] w = (am_gf w l3 6 1).bind fun v => am_run 201 48 [some (.ref l0), none, none, none] (v :: [.ref s0]) w := by
  refine (bu (ls'' := [some (.ref l0), none, none, none]) (st' := [.ref l3, .ref s0]) bf201_44 bf201_45 rfl rfl).trans ?_
  exact bh bf201_45 bf201_48 rfl (fun _ _ => am_ge_rf w) rfl
theorem bk201_61 {w : am_Wd} {l0 : Nat} {l3 : Nat} {s0 : Nat} : am_run 201 61 [some (.ref l0), none, none, some (.ref l3)] [.ref s0] w = (am_gf w l3 6 1).bind fun v => am_run 201 65 [some (.ref l0), none, none, none] (v :: [.ref s0]) w := by
  refine (bu (ls'' := [some (.ref l0), none, none, none]) (st' := [.ref l3, .ref s0]) bf201_61 bf201_62 rfl rfl).trans ?_
  exact bh bf201_62 bf201_65 rfl (fun _ _ => am_ge_rf w) rfl
theorem bk201_79 {w : am_Wd} {s0 : Int32} : am_run 201 79 [none, none, none, none] [.int s0] w = some (.inl (some (.int s0)), w) := by
  exact am_e2 bf201_79 rfl (am_ge_rf w)
theorem bk201_48 {w : am_Wd} {l0 : Nat} {s0 : Nat} {s1 : Nat} : am_run 201 48 [some (.ref l0), none, none, none] [.ref s0, .ref s1] w = (am_kf w l0 8).bind fun _ => (am_x 33 [.ref l0] w).bind fun r => bct r fun v w' => am_run 201 53 [none, none, none, none] (v.toList ++ [.int (nI 1), .ref s0, .ref s1]) w' := by
  refine (bu (ls'' := [some (.ref l0), none, none, none]) (st' := [.int (nI 1), .ref s0, .ref s1]) bf201_48 bf201_49 rfl rfl).trans ?_
  refine (bu (ls'' := [none, none, none, none]) (st' := [.ref l0, .int (nI 1), .ref s0, .ref s1]) bf201_49 bf201_50 rfl rfl).trans ?_
  exact bkV bf201_50 bf201_53 rfl (by decide +kernel) (Nat.le_of_ble_eq_true rfl) rfl (bhd rfl)
theorem bk201_65 {w : am_Wd} {l0 : Nat} {s0 : Nat} {s1 : Nat} : am_run 201 65 [some (.ref l0), none, none, none] [.ref s0, .ref s1] w = (am_kf w l0 8).bind fun _ => (am_x 33 [.ref l0] w).bind fun r => bct r fun v w' => am_run 201 70 [none, none, none, none] (v.toList ++ [.int (nI 0), .ref s0, .ref s1]) w' := by
  refine (bu (ls'' := [some (.ref l0), none, none, none]) (st' := [.int (nI 0), .ref s0, .ref s1]) bf201_65 bf201_66 rfl rfl).trans ?_
  refine (bu (ls'' := [none, none, none, none]) (st' := [.ref l0, .int (nI 0), .ref s0, .ref s1]) bf201_66 bf201_67 rfl rfl).trans ?_
  exact bkV bf201_67 bf201_70 rfl (by decide +kernel) (Nat.le_of_ble_eq_true rfl) rfl (bhd rfl)
theorem bk201_53 {w : am_Wd} {s0 : Int32} {s1 : Int32} {s2 : Nat} {s3 : Nat} : am_run 201 53 [none, none, none, none] [.int s0, .int s1, .ref s2, .ref s3] w = (am_kf w s3 5).bind fun _ => (am_x 159 [.ref s3, .ref s2, .int s1, .int s0] w).bind fun r => bct r fun v w' => am_run 201 56 [none, none, none, none] (v.toList ++ []) w' := by
  exact bkV bf201_53 bf201_56 rfl (by decide +kernel) (Nat.le_of_ble_eq_true rfl) rfl (bhd rfl)
theorem bk201_70 {w : am_Wd} {s0 : Int32} {s1 : Int32} {s2 : Nat} {s3 : Nat} : am_run 201 70 [none, none, none, none] [.int s0, .int s1, .ref s2, .ref s3] w = (am_kf w s3 5).bind fun _ => (am_x 159 [.ref s3, .ref s2, .int s1, .int s0] w).bind fun r => bct r fun v w' => am_run 201 73 [none, none, none, none] (v.toList ++ []) w' := by
  exact bkV bf201_70 bf201_73 rfl (by decide +kernel) (Nat.le_of_ble_eq_true rfl) rfl (bhd rfl)
theorem bk201_56 {w : am_Wd} {s0 : Int32} : am_run 201 56 [none, none, none, none] [.int s0] w = some (.inl (some (.int s0)), w) := by
  exact am_e2 bf201_56 rfl (am_ge_rf w)
theorem bk201_73 {w : am_Wd} {s0 : Int32} : am_run 201 73 [none, none, none, none] [.int s0] w = some (.inl (some (.int s0)), w) := by
  exact am_e2 bf201_73 rfl (am_ge_rf w)
theorem bf202_0 : am_fetch (am_mth 202) 0 = some (.aload_n 0, 1, [], [3]) := by decide +kernel
theorem bf202_1 : am_fetch (am_mth 202) 1 = some (.iload_n 1, 1, [], [0, 3]) := by decide +kernel
theorem bf202_2 : am_fetch (am_mth 202) 2 = some (.invokevirtual 89, 3, [0, 31, 1, 8, 343, 345, 1, 17], [0, 1, 3]) := by decide +kernel
theorem bf202_5 : am_fetch (am_mth 202) 5 = some (.astore_n 3, 1, [], [0, 1, 3]) := by decide +kernel
theorem bf202_6 : am_fetch (am_mth 202) 6 = some (.iload_n 2, 1, [], [0, 1]) := by decide +kernel
theorem bf202_7 : am_fetch (am_mth 202) 7 = some (.iconst 0, 1, [], [0, 1]) := by decide +kernel
theorem bf202_8 : am_fetch (am_mth 202) 8 = some (.iconst 3, 1, [], [0, 1]) := by decide +kernel
theorem bf202_9 : am_fetch (am_mth 202) 9 = some (.invokestatic 43, 3, [0, 92, 3, 95, 96, 17], [0, 1]) := by decide +kernel
theorem bf202_12 : am_fetch (am_mth 202) 12 = some (.aload_n 3, 1, [], [0, 1]) := by decide +kernel
theorem bf202_13 : am_fetch (am_mth 202) 13 = some (.iload_n 2, 1, [], [0, 1, 3]) := by decide +kernel
theorem bf202_14 : am_fetch (am_mth 202) 14 = some (.invokevirtual 280, 3, [0, 164, 1, 6, 420, 421, 422, 28], [0, 1, 2, 3]) := by decide +kernel
theorem bf202_17 : am_fetch (am_mth 202) 17 = some (.ireturn, 1, [0], [0, 1, 2, 3]) := by decide +kernel
theorem bk202_0 {w : am_Wd} {l0 : Nat} {l1 : Int32} {l2 : Int32} : am_run 202 0 [some (.ref l0), some (.int l1), some (.int l2), none] [] w = (am_kf w l0 8).bind fun _ => (am_x 31 [.ref l0, .int l1] w).bind fun r => bct r fun v w' => am_run 202 5 [none, none, some (.int l2), none] (v.toList ++ []) w' := by
  refine (bu (ls'' := [none, some (.int l1), some (.int l2), none]) (st' := [.ref l0]) bf202_0 bf202_1 rfl rfl).trans ?_
  refine (bu (ls'' := [none, none, some (.int l2), none]) (st' := [.int l1, .ref l0]) bf202_1 bf202_2 rfl rfl).trans ?_
  exact bkV bf202_2 bf202_5 rfl (by decide +kernel) (Nat.le_of_ble_eq_true rfl) rfl (bhd rfl)
theorem bk202_5 {w : am_Wd} {l2 : Int32} {s0 : Nat} : am_run 202 5 [none, none, some (.int l2), none] [.ref s0] w = (am_x 92 [.int l2, .int (nI 0), .int (nI 3)] w).bind fun r => bct r fun v w' => am_run 202 12 [none, none, some (.int l2), some (.ref s0)] (v.toList ++ []) w' := by
  refine (bu (ls'' := [none, none, some (.int l2), some (.ref s0)]) (st' := []) bf202_5 bf202_6 rfl rfl).trans ?_
  refine (bu (ls'' := [none, none, some (.int l2), some (.ref s0)]) (st' := [.int l2]) bf202_6 bf202_7 rfl rfl).trans ?_
  refine (bu (ls'' := [none, none, some (.int l2), some (.ref s0)]) (st' := [.int (nI 0), .int l2]) bf202_7 bf202_8 rfl rfl).trans ?_
  refine (bu (ls'' := [none, none, some (.int l2), some (.ref s0)]) (st' := [.int (nI 3), .int (nI 0), .int l2]) bf202_8 bf202_9 rfl rfl).trans ?_
  exact bkS bf202_9 bf202_12 rfl (by decide +kernel) (Nat.le_of_ble_eq_true rfl) rfl (bhd rfl)
theorem bk202_12 {w : am_Wd} {l2 : Int32} {l3 : Nat} : am_run 202 12 [none, none, some (.int l2), some (.ref l3)] [] w = (am_kf w l3 6).bind fun _ => (am_x 164 [.ref l3, .int l2] w).bind fun r => bct r fun v w' => am_run 202 17 [none, none, none, none] (v.toList ++ []) w' := by
  refine (bu (ls'' := [none, none, some (.int l2), none]) (st' := [.ref l3]) bf202_12 bf202_13 rfl rfl).trans ?_
  refine (bu (ls'' := [none, none, none, none]) (st' := [.int l2, .ref l3]) bf202_13 bf202_14 rfl rfl).trans ?_
  exact bkV bf202_14 bf202_17 rfl (by decide +kernel) (Nat.le_of_ble_eq_true rfl) rfl (bhd rfl)
theorem bk202_17 {w : am_Wd} {s0 : Int32} : am_run 202 17 [none, none, none, none] [.int s0] w = some (.inl (some (.int s0)), w) := by
  exact am_e2 bf202_17 rfl (am_ge_rf w)
theorem bf203_0 : am_fetch (am_mth 203) 0 = some (.aload_n 0, 1, [], [2, 3, 4]) := by decide +kernel
theorem bf203_1 : am_fetch (am_mth 203) 1 = some (.iload_n 1, 1, [], [0, 2, 3, 4]) := by decide +kernel
theorem bf203_2 : am_fetch (am_mth 203) 2 = some (.invokevirtual 89, 3, [0, 31, 1, 8, 343, 345, 1, 17], [0, 1, 2, 3, 4]) := by decide +kernel
theorem bf203_5 : am_fetch (am_mth 203) 5 = some (.astore_n 2, 1, [], [0, 1, 2, 3, 4]) := by decide +kernel
theorem bf203_6 : am_fetch (am_mth 203) 6 = some (.iconst 0, 1, [], [0, 1, 3, 4]) := by decide +kernel
theorem bf203_7 : am_fetch (am_mth 203) 7 = some (.istore_n 3, 1, [], [0, 1, 3, 4]) := by decide +kernel
theorem bf203_8 : am_fetch (am_mth 203) 8 = some (.iconst 1, 1, [], [0, 1, 4]) := by decide +kernel
theorem bf203_9 : am_fetch (am_mth 203) 9 = some (.istore 4, 2, [], [0, 1, 4]) := by decide +kernel
theorem bf203_11 : am_fetch (am_mth 203) 11 = some (.iload 4, 2, [], [0, 1]) := by decide +kernel
theorem bf203_13 : am_fetch (am_mth 203) 13 = some (.iconst 4, 1, [], [0, 1]) := by decide +kernel
theorem bf203_14 : am_fetch (am_mth 203) 14 = some (.if_icmp .ge 26, 3, [], [0, 1]) := by decide +kernel
theorem bf203_17 : am_fetch (am_mth 203) 17 = some (.aload_n 2, 1, [], [0, 1]) := by decide +kernel
theorem bf203_18 : am_fetch (am_mth 203) 18 = some (.iload 4, 2, [], [0, 1]) := by decide +kernel
theorem bf203_20 : am_fetch (am_mth 203) 20 = some (.invokevirtual 280, 3, [0, 164, 1, 6, 420, 421, 422, 28], [0, 1]) := by decide +kernel
theorem bf203_23 : am_fetch (am_mth 203) 23 = some (.aload_n 2, 1, [], [0, 1]) := by decide +kernel
theorem bf203_24 : am_fetch (am_mth 203) 24 = some (.iload_n 3, 1, [], [0, 1]) := by decide +kernel
theorem bf203_25 : am_fetch (am_mth 203) 25 = some (.invokevirtual 280, 3, [0, 164, 1, 6, 420, 421, 422, 28], [0, 1]) := by decide +kernel
theorem bf203_28 : am_fetch (am_mth 203) 28 = some (.if_icmp .ge 6, 3, [], [0, 1]) := by decide +kernel
theorem bf203_31 : am_fetch (am_mth 203) 31 = some (.iload 4, 2, [], [0, 1, 3]) := by decide +kernel
theorem bf203_33 : am_fetch (am_mth 203) 33 = some (.istore_n 3, 1, [], [0, 1, 3]) := by decide +kernel
theorem bf203_34 : am_fetch (am_mth 203) 34 = some (.iinc 4 1, 3, [], [0, 1]) := by decide +kernel
theorem bf203_37 : am_fetch (am_mth 203) 37 = some (.goto (-26), 3, [], [0, 1]) := by decide +kernel
theorem bf203_40 : am_fetch (am_mth 203) 40 = some (.iload_n 3, 1, [], [0, 1, 2, 4]) := by decide +kernel
theorem bf203_41 : am_fetch (am_mth 203) 41 = some (.ireturn, 1, [0], [0, 1, 2, 3, 4]) := by decide +kernel
theorem bk203_0 {w : am_Wd} {l0 : Nat} {l1 : Int32} : am_run 203 0 [some (.ref l0), some (.int l1), none, none, none] [] w = (am_kf w l0 8).bind fun _ => (am_x 31 [.ref l0, .int l1] w).bind fun r => bct r fun v w' => am_run 203 5 [none, none, none, none, none] (v.toList ++ []) w' := by
  refine (bu (ls'' := [none, some (.int l1), none, none, none]) (st' := [.ref l0]) bf203_0 bf203_1 rfl rfl).trans ?_
  refine (bu (ls'' := [none, none, none, none, none]) (st' := [.int l1, .ref l0]) bf203_1 bf203_2 rfl rfl).trans ?_
  exact bkV bf203_2 bf203_5 rfl (by decide +kernel) (Nat.le_of_ble_eq_true rfl) rfl (bhd rfl)
theorem bk203_5 {w : am_Wd} {s0 : Nat} : am_run 203 5 [none, none, none, none, none] [.ref s0] w = am_run 203 11 [none, none, some (.ref s0), some (.int (nI 0)), some (.int (nI 1))] [] w := by
  refine (bu (ls'' := [none, none, some (.ref s0), none, none]) (st' := []) bf203_5 bf203_6 rfl rfl).trans ?_
  refine (bu (ls'' := [none, none, some (.ref s0), none, none]) (st' := [.int (nI 0)]) bf203_6 bf203_7 rfl rfl).trans ?_
  refine (bu (ls'' := [none, none, some (.ref s0), some (.int (nI 0)), none]) (st' := []) bf203_7 bf203_8 rfl rfl).trans ?_
  refine (bu (ls'' := [none, none, some (.ref s0), some (.int (nI 0)), none]) (st' := [.int (nI 1)]) bf203_8 bf203_9 rfl rfl).trans ?_
  refine (bu (ls'' := [none, none, some (.ref s0), some (.int (nI 0)), some (.int (nI 1))]) (st' := []) bf203_9 bf203_11 rfl rfl).trans ?_
  rfl
theorem bk203_11 {w : am_Wd} {l2 : Nat} {l3 : Int32} {l4 : Int32} : am_run 203 11 [none, none, some (.ref l2), some (.int l3), some (.int l4)] [] w = if (nI 4) ≤ l4 then am_run 203 40 [none, none, none, some (.int l3), none] [] w else am_run 203 17 [none, none, some (.ref l2), some (.int l3), some (.int l4)] [] w := by
  refine (bu (ls'' := [none, none, some (.ref l2), some (.int l3), some (.int l4)]) (st' := [.int l4]) bf203_11 bf203_13 rfl rfl).trans ?_
  refine (bu (ls'' := [none, none, some (.ref l2), some (.int l3), some (.int l4)]) (st' := [.int (nI 4), .int l4]) bf203_13 bf203_14 rfl rfl).trans ?_
  exact bic bf203_14 rfl bf203_40 bf203_17 rfl rfl rfl
theorem bk203_40 {w : am_Wd} {l3 : Int32} : am_run 203 40 [none, none, none, some (.int l3), none] [] w = some (.inl (some (.int l3)), w) := by
  refine (bu (ls'' := [none, none, none, none, none]) (st' := [.int l3]) bf203_40 bf203_41 rfl rfl).trans ?_
  exact am_e2 bf203_41 rfl (am_ge_rf w)
theorem bk203_17 {w : am_Wd} {l2 : Nat} {l3 : Int32} {l4 : Int32} : am_run 203 17 [none, none, some (.ref l2), some (.int l3), some (.int l4)] [] w = (am_kf w l2 6).bind fun _ => (am_x 164 [.ref l2, .int l4] w).bind fun r => bct r fun v w' => am_run 203 23 [none, none, some (.ref l2), some (.int l3), some (.int l4)] (v.toList ++ []) w' := by
  refine (bu (ls'' := [none, none, some (.ref l2), some (.int l3), some (.int l4)]) (st' := [.ref l2]) bf203_17 bf203_18 rfl rfl).trans ?_
  refine (bu (ls'' := [none, none, some (.ref l2), some (.int l3), some (.int l4)]) (st' := [.int l4, .ref l2]) bf203_18 bf203_20 rfl rfl).trans ?_
  exact bkV bf203_20 bf203_23 rfl (by decide +kernel) (Nat.le_of_ble_eq_true rfl) rfl (bhd rfl)
theorem bk203_23 {w : am_Wd} {l2 : Nat} {l3 : Int32} {l4 : Int32} {s0 : Int32} : am_run 203 23 [none, none, some (.ref l2), some (.int l3), some (.int l4)] [.int s0] w = (am_kf w l2 6).bind fun _ => (am_x 164 [.ref l2, .int l3] w).bind fun r => bct r fun v w' => am_run 203 28 [none, none, some (.ref l2), some (.int l3), some (.int l4)] (v.toList ++ [.int s0]) w' := by
  refine (bu (ls'' := [none, none, some (.ref l2), some (.int l3), some (.int l4)]) (st' := [.ref l2, .int s0]) bf203_23 bf203_24 rfl rfl).trans ?_
  refine (bu (ls'' := [none, none, some (.ref l2), some (.int l3), some (.int l4)]) (st' := [.int l3, .ref l2, .int s0]) bf203_24 bf203_25 rfl rfl).trans ?_
  exact bkV bf203_25 bf203_28 rfl (by decide +kernel) (Nat.le_of_ble_eq_true rfl) rfl (bhd rfl)
theorem bk203_28 {w : am_Wd} {l2 : Nat} {l3 : Int32} {l4 : Int32} {s0 : Int32} {s1 : Int32} : am_run 203 28 [none, none, some (.ref l2), some (.int l3), some (.int l4)] [.int s0, .int s1] w = if s0 ≤ s1 then am_run 203 34 [none, none, some (.ref l2), some (.int l3), some (.int l4)] [] w else am_run 203 31 [none, none, some (.ref l2), none, some (.int l4)] [] w := by
  exact bic bf203_28 rfl bf203_34 bf203_31 rfl rfl rfl
theorem bk203_34 {w : am_Wd} {l2 : Nat} {l3 : Int32} {l4 : Int32} : am_run 203 34 [none, none, some (.ref l2), some (.int l3), some (.int l4)] [] w = am_run 203 11 [none, none, some (.ref l2), some (.int l3), some (.int (l4 + (nI 1)))] [] w := by
  refine (bu (ls'' := [none, none, some (.ref l2), some (.int l3), some (.int (l4 + (nI 1)))]) (st' := []) bf203_34 bf203_37 rfl rfl).trans ?_
  refine (bu (ls'' := [none, none, some (.ref l2), some (.int l3), some (.int (l4 + (nI 1)))]) (st' := []) bf203_37 bf203_11 rfl rfl).trans ?_
  rfl
theorem bk203_31 {w : am_Wd} {l2 : Nat} {l4 : Int32} : am_run 203 31 [none, none, some (.ref l2), none, some (.int l4)] [] w = am_run 203 34 [none, none, some (.ref l2), some (.int l4), some (.int l4)] [] w := by
  refine (bu (ls'' := [none, none, some (.ref l2), none, some (.int l4)]) (st' := [.int l4]) bf203_31 bf203_33 rfl rfl).trans ?_
  refine (bu (ls'' := [none, none, some (.ref l2), some (.int l4), some (.int l4)]) (st' := []) bf203_33 bf203_34 rfl rfl).trans ?_
  rfl
theorem bf205_0 : am_fetch (am_mth 205) 0 = some (.aload_n 0, 1, [], [2, 3, 4]) := by decide +kernel
theorem bf205_1 : am_fetch (am_mth 205) 1 = some (.invokevirtual 110, 3, [0, 33, 0, 8, 348, 350, 2, 17], [2, 3, 4]) := by decide +kernel
theorem bf205_4 : am_fetch (am_mth 205) 4 = some (.istore_n 2, 1, [], [2, 3, 4]) := by decide +kernel
theorem bf205_5 : am_fetch (am_mth 205) 5 = some (.aload_n 0, 1, [], [3, 4]) := by decide +kernel
theorem bf205_6 : am_fetch (am_mth 205) 6 = some (.getfield 10, 3, [0, 8, 0, 63], [3, 4]) := by decide +kernel
theorem bf205_9 : am_fetch (am_mth 205) 9 = some (.aload_n 1, 1, [], [3, 4]) := by decide +kernel
theorem bf205_10 : am_fetch (am_mth 205) 10 = some (.getfield 179, 3, [1, 6, 1, 303], [3, 4]) := by decide +kernel
theorem bf205_13 : am_fetch (am_mth 205) 13 = some (.iconst 1, 1, [], [3, 4]) := by decide +kernel
theorem bf205_14 : am_fetch (am_mth 205) 14 = some (.iload_n 2, 1, [], [3, 4]) := by decide +kernel
theorem bf205_15 : am_fetch (am_mth 205) 15 = some (.invokevirtual 207, 3, [0, 159, 3, 5, 352, 353, 354, 18], [3, 4]) := by decide +kernel
theorem bf205_18 : am_fetch (am_mth 205) 18 = some (.istore_n 3, 1, [], [3, 4]) := by decide +kernel
theorem bf205_19 : am_fetch (am_mth 205) 19 = some (.aload_n 0, 1, [], [4]) := by decide +kernel
theorem bf205_20 : am_fetch (am_mth 205) 20 = some (.getfield 10, 3, [0, 8, 0, 63], [0, 4]) := by decide +kernel
theorem bf205_23 : am_fetch (am_mth 205) 23 = some (.aload_n 1, 1, [], [0, 4]) := by decide +kernel
theorem bf205_24 : am_fetch (am_mth 205) 24 = some (.getfield 179, 3, [1, 6, 1, 303], [0, 4]) := by decide +kernel
theorem bf205_27 : am_fetch (am_mth 205) 27 = some (.iconst 0, 1, [], [0, 4]) := by decide +kernel
theorem bf205_28 : am_fetch (am_mth 205) 28 = some (.iload_n 2, 1, [], [0, 4]) := by decide +kernel
theorem bf205_29 : am_fetch (am_mth 205) 29 = some (.invokevirtual 207, 3, [0, 159, 3, 5, 352, 353, 354, 18], [0, 2, 4]) := by decide +kernel
theorem bf205_32 : am_fetch (am_mth 205) 32 = some (.istore 4, 2, [], [0, 2, 4]) := by decide +kernel
theorem bf205_34 : am_fetch (am_mth 205) 34 = some (.iload_n 3, 1, [], [0, 2]) := by decide +kernel
theorem bf205_35 : am_fetch (am_mth 205) 35 = some (.iload 4, 2, [], [0, 2, 3]) := by decide +kernel
theorem bf205_37 : am_fetch (am_mth 205) 37 = some (.iadd, 1, [], [0, 2, 3, 4]) := by decide +kernel
theorem bf205_38 : am_fetch (am_mth 205) 38 = some (.aload_n 1, 1, [], [0, 2, 3, 4]) := by decide +kernel
theorem bf205_39 : am_fetch (am_mth 205) 39 = some (.getfield 179, 3, [1, 6, 1, 303], [0, 2, 3, 4]) := by decide +kernel
theorem bf205_42 : am_fetch (am_mth 205) 42 = some (.invokevirtual 377, 3, [0, 83, 0, 7, 563, 388, 389, 29], [0, 2, 3, 4]) := by decide +kernel
theorem bf205_45 : am_fetch (am_mth 205) 45 = some (.aload_n 1, 1, [], [0, 2, 3, 4]) := by decide +kernel
theorem bf205_46 : am_fetch (am_mth 205) 46 = some (.getfield 179, 3, [1, 6, 1, 303], [0, 1, 2, 3, 4]) := by decide +kernel
theorem bf205_49 : am_fetch (am_mth 205) 49 = some (.invokevirtual 380, 3, [0, 84, 0, 7, 564, 393, 394, 29], [0, 1, 2, 3, 4]) := by decide +kernel
theorem bf205_52 : am_fetch (am_mth 205) 52 = some (.iadd, 1, [], [0, 1, 2, 3, 4]) := by decide +kernel
theorem bf205_53 : am_fetch (am_mth 205) 53 = some (.if_icmp .ne 7, 3, [], [0, 1, 2, 3, 4]) := by decide +kernel
theorem bf205_56 : am_fetch (am_mth 205) 56 = some (.iconst 1, 1, [], [0, 1, 2, 3, 4]) := by decide +kernel
theorem bf205_57 : am_fetch (am_mth 205) 57 = some (.goto 4, 3, [], [0, 1, 2, 3, 4]) := by decide +kernel
theorem bf205_60 : am_fetch (am_mth 205) 60 = some (.iconst 0, 1, [], [0, 1, 2, 3, 4]) := by decide +kernel
theorem bf205_61 : am_fetch (am_mth 205) 61 = some (.ireturn, 1, [1], [0, 1, 2, 3, 4]) := by decide +kernel
theorem bk205_0 {w : am_Wd} {l0 : Nat} {l1 : Nat} : am_run 205 0 [some (.ref l0), some (.ref l1), none, none, none] [] w = (am_kf w l0 8).bind fun _ => (am_x 33 [.ref l0] w).bind fun r => bct r fun v w' => am_run 205 4 [some (.ref l0), some (.ref l1), none, none, none] (v.toList ++ []) w' := by
  refine (bu (ls'' := [some (.ref l0), some (.ref l1), none, none, none]) (st' := [.ref l0]) bf205_0 bf205_1 rfl rfl).trans ?_
  exact bkV bf205_1 bf205_4 rfl (by decide +kernel) (Nat.le_of_ble_eq_true rfl) rfl (bhd rfl)
theorem bk205_4 {w : am_Wd} {l0 : Nat} {l1 : Nat} {s0 : Int32} : am_run 205 4 [some (.ref l0), some (.ref l1), none, none, none] [.int s0] w = (am_gf w l0 8 0).bind fun v => am_run 205 9 [some (.ref l0), some (.ref l1), some (.int s0), none, none] (v :: []) w := by
  refine (bu (ls'' := [some (.ref l0), some (.ref l1), some (.int s0), none, none]) (st' := []) bf205_4 bf205_5 rfl rfl).trans ?_
  refine (bu (ls'' := [some (.ref l0), some (.ref l1), some (.int s0), none, none]) (st' := [.ref l0]) bf205_5 bf205_6 rfl rfl).trans ?_
  exact bh bf205_6 bf205_9 rfl (fun _ _ => am_ge_rf w) rfl
theorem bk205_9 {w : am_Wd} {l0 : Nat} {l1 : Nat} {l2 : Int32} {s0 : Nat} : am_run 205 9 [some (.ref l0), some (.ref l1), some (.int l2), none, none] [.ref s0] w = (am_gf w l1 6 1).bind fun v => am_run 205 13 [some (.ref l0), some (.ref l1), some (.int l2), none, none] (v :: [.ref s0]) w := by
  refine (bu (ls'' := [some (.ref l0), some (.ref l1), some (.int l2), none, none]) (st' := [.ref l1, .ref s0]) bf205_9 bf205_10 rfl rfl).trans ?_
  exact bh bf205_10 bf205_13 rfl (fun _ _ => am_ge_rf w) rfl
theorem bk205_13 {w : am_Wd} {l0 : Nat} {l1 : Nat} {l2 : Int32} {s0 : Nat} {s1 : Nat} : am_run 205 13 [some (.ref l0), some (.ref l1), some (.int l2), none, none] [.ref s0, .ref s1] w = (am_kf w s1 5).bind fun _ => (am_x 159 [.ref s1, .ref s0, .int (nI 1), .int l2] w).bind fun r => bct r fun v w' => am_run 205 18 [some (.ref l0), some (.ref l1), some (.int l2), none, none] (v.toList ++ []) w' := by
  refine (bu (ls'' := [some (.ref l0), some (.ref l1), some (.int l2), none, none]) (st' := [.int (nI 1), .ref s0, .ref s1]) bf205_13 bf205_14 rfl rfl).trans ?_
  refine (bu (ls'' := [some (.ref l0), some (.ref l1), some (.int l2), none, none]) (st' := [.int l2, .int (nI 1), .ref s0, .ref s1]) bf205_14 bf205_15 rfl rfl).trans ?_
  exact bkV bf205_15 bf205_18 rfl (by decide +kernel) (Nat.le_of_ble_eq_true rfl) rfl (bhd rfl)
theorem bk205_18 {w : am_Wd} {l0 : Nat} {l1 : Nat} {l2 : Int32} {s0 : Int32} : am_run 205 18 [some (.ref l0), some (.ref l1), some (.int l2), none, none] [.int s0] w = (am_gf w l0 8 0).bind fun v => am_run 205 23 [none, some (.ref l1), some (.int l2), some (.int s0), none] (v :: []) w := by
  refine (bu (ls'' := [some (.ref l0), some (.ref l1), some (.int l2), some (.int s0), none]) (st' := []) bf205_18 bf205_19 rfl rfl).trans ?_
  refine (bu (ls'' := [none, some (.ref l1), some (.int l2), some (.int s0), none]) (st' := [.ref l0]) bf205_19 bf205_20 rfl rfl).trans ?_
  exact bh bf205_20 bf205_23 rfl (fun _ _ => am_ge_rf w) rfl
theorem bk205_23 {w : am_Wd} {l1 : Nat} {l2 : Int32} {l3 : Int32} {s0 : Nat} : am_run 205 23 [none, some (.ref l1), some (.int l2), some (.int l3), none] [.ref s0] w = (am_gf w l1 6 1).bind fun v => am_run 205 27 [none, some (.ref l1), some (.int l2), some (.int l3), none] (v :: [.ref s0]) w := by
  refine (bu (ls'' := [none, some (.ref l1), some (.int l2), some (.int l3), none]) (st' := [.ref l1, .ref s0]) bf205_23 bf205_24 rfl rfl).trans ?_
  exact bh bf205_24 bf205_27 rfl (fun _ _ => am_ge_rf w) rfl
theorem bk205_27 {w : am_Wd} {l1 : Nat} {l2 : Int32} {l3 : Int32} {s0 : Nat} {s1 : Nat} : am_run 205 27 [none, some (.ref l1), some (.int l2), some (.int l3), none] [.ref s0, .ref s1] w = (am_kf w s1 5).bind fun _ => (am_x 159 [.ref s1, .ref s0, .int (nI 0), .int l2] w).bind fun r => bct r fun v w' => am_run 205 32 [none, some (.ref l1), none, some (.int l3), none] (v.toList ++ []) w' := by
  refine (bu (ls'' := [none, some (.ref l1), some (.int l2), some (.int l3), none]) (st' := [.int (nI 0), .ref s0, .ref s1]) bf205_27 bf205_28 rfl rfl).trans ?_
  refine (bu (ls'' := [none, some (.ref l1), none, some (.int l3), none]) (st' := [.int l2, .int (nI 0), .ref s0, .ref s1]) bf205_28 bf205_29 rfl rfl).trans ?_
  exact bkV bf205_29 bf205_32 rfl (by decide +kernel) (Nat.le_of_ble_eq_true rfl) rfl (bhd rfl)
theorem bk205_32 {w : am_Wd} {l1 : Nat} {l3 : Int32} {s0 : Int32} : am_run 205 32 [none, some (.ref l1), none, some (.int l3), none] [.int s0] w = (am_gf w l1 6 1).bind fun v => am_run 205 42 [none, some (.ref l1), none, none, none] (v :: [.int (l3 + s0)]) w := by
  refine (bu (ls'' := [none, some (.ref l1), none, some (.int l3), some (.int s0)]) (st' := []) bf205_32 bf205_34 rfl rfl).trans ?_
  refine (bu (ls'' := [none, some (.ref l1), none, none, some (.int s0)]) (st' := [.int l3]) bf205_34 bf205_35 rfl rfl).trans ?_
  refine (bu (ls'' := [none, some (.ref l1), none, none, none]) (st' := [.int s0, .int l3]) bf205_35 bf205_37 rfl rfl).trans ?_
  refine (bu (ls'' := [none, some (.ref l1), none, none, none]) (st' := [.int (l3 + s0)]) bf205_37 bf205_38 rfl rfl).trans ?_
  refine (bu (ls'' := [none, some (.ref l1), none, none, none]) (st' := [.ref l1, .int (l3 + s0)]) bf205_38 bf205_39 rfl rfl).trans ?_
  exact bh bf205_39 bf205_42 rfl (fun _ _ => am_ge_rf w) rfl
theorem bk205_42 {w : am_Wd} {l1 : Nat} {s0 : Nat} {s1 : Int32} : am_run 205 42 [none, some (.ref l1), none, none, none] [.ref s0, .int s1] w = (am_kf w s0 7).bind fun _ => (am_x 83 [.ref s0] w).bind fun r => bct r fun v w' => am_run 205 45 [none, some (.ref l1), none, none, none] (v.toList ++ [.int s1]) w' := by
  exact bkV bf205_42 bf205_45 rfl (by decide +kernel) (Nat.le_of_ble_eq_true rfl) rfl (bhd rfl)
theorem bk205_45 {w : am_Wd} {l1 : Nat} {s0 : Int32} {s1 : Int32} : am_run 205 45 [none, some (.ref l1), none, none, none] [.int s0, .int s1] w = (am_gf w l1 6 1).bind fun v => am_run 205 49 [none, none, none, none, none] (v :: [.int s0, .int s1]) w := by
  refine (bu (ls'' := [none, none, none, none, none]) (st' := [.ref l1, .int s0, .int s1]) bf205_45 bf205_46 rfl rfl).trans ?_
  exact bh bf205_46 bf205_49 rfl (fun _ _ => am_ge_rf w) rfl
theorem bk205_49 {w : am_Wd} {s0 : Nat} {s1 : Int32} {s2 : Int32} : am_run 205 49 [none, none, none, none, none] [.ref s0, .int s1, .int s2] w = (am_kf w s0 7).bind fun _ => (am_x 84 [.ref s0] w).bind fun r => bct r fun v w' => am_run 205 52 [none, none, none, none, none] (v.toList ++ [.int s1, .int s2]) w' := by
  exact bkV bf205_49 bf205_52 rfl (by decide +kernel) (Nat.le_of_ble_eq_true rfl) rfl (bhd rfl)
theorem bk205_52 {w : am_Wd} {s0 : Int32} {s1 : Int32} {s2 : Int32} : am_run 205 52 [none, none, none, none, none] [.int s0, .int s1, .int s2] w = if ¬ s2 = (s1 + s0) then am_run 205 60 [none, none, none, none, none] [] w else am_run 205 56 [none, none, none, none, none] [] w := by
  refine (bu (ls'' := [none, none, none, none, none]) (st' := [.int (s1 + s0), .int s2]) bf205_52 bf205_53 rfl rfl).trans ?_
  exact bic bf205_53 rfl bf205_60 bf205_56 rfl rfl rfl
theorem bk205_60 {w : am_Wd}  : am_run 205 60 [none, none, none, none, none] [] w = am_run 205 61 [none, none, none, none, none] [.int (nI 0)] w := by
  refine (bu (ls'' := [none, none, none, none, none]) (st' := [.int (nI 0)]) bf205_60 bf205_61 rfl rfl).trans ?_
  rfl
theorem bk205_56 {w : am_Wd}  : am_run 205 56 [none, none, none, none, none] [] w = am_run 205 61 [none, none, none, none, none] [.int (nI 1)] w := by
  refine (bu (ls'' := [none, none, none, none, none]) (st' := [.int (nI 1)]) bf205_56 bf205_57 rfl rfl).trans ?_
  refine (bu (ls'' := [none, none, none, none, none]) (st' := [.int (nI 1)]) bf205_57 bf205_61 rfl rfl).trans ?_
  rfl
theorem bk205_61 {w : am_Wd} {s0 : Int32} (hb : am_ok (am_rt 1) (.int s0) = true) : am_run 205 61 [none, none, none, none, none] [.int s0] w = some (.inl (some (.int s0)), w) := by
  exact am_e2 bf205_61 (by unfold am_stp; exact if_pos ⟨by decide, hb⟩) (am_ge_rf w)
theorem bf223_0 : am_fetch (am_mth 223) 0 = some (.aload_n 0, 1, [], [3]) := by decide +kernel
theorem bf223_1 : am_fetch (am_mth 223) 1 = some (.iload_n 1, 1, [], [0, 3]) := by decide +kernel
theorem bf223_2 : am_fetch (am_mth 223) 2 = some (.invokevirtual 89, 3, [0, 31, 1, 8, 343, 345, 1, 17], [0, 1, 3]) := by decide +kernel
theorem bf223_5 : am_fetch (am_mth 223) 5 = some (.astore_n 3, 1, [], [0, 1, 3]) := by decide +kernel
theorem bf223_6 : am_fetch (am_mth 223) 6 = some (.iload_n 2, 1, [], [0, 1]) := by decide +kernel
theorem bf223_7 : am_fetch (am_mth 223) 7 = some (.iconst 0, 1, [], [0, 1]) := by decide +kernel
theorem bf223_8 : am_fetch (am_mth 223) 8 = some (.iconst 3, 1, [], [0, 1]) := by decide +kernel
theorem bf223_9 : am_fetch (am_mth 223) 9 = some (.invokestatic 43, 3, [0, 92, 3, 95, 96, 17], [0, 1]) := by decide +kernel
theorem bf223_12 : am_fetch (am_mth 223) 12 = some (.iload_n 2, 1, [], [0, 1]) := by decide +kernel
theorem bf223_13 : am_fetch (am_mth 223) 13 = some (.tableswitch 48 0 2 #[27, 32, 40], 27, [], [0, 1, 2]) := by decide +kernel
theorem bf223_40 : am_fetch (am_mth 223) 40 = some (.aload_n 3, 1, [], [0, 1, 2]) := by decide +kernel
theorem bf223_41 : am_fetch (am_mth 223) 41 = some (.invokevirtual 262, 3, [0, 162, 0, 6, 496, 497, 498, 28], [0, 1, 2, 3]) := by decide +kernel
theorem bf223_44 : am_fetch (am_mth 223) 44 = some (.ireturn, 1, [0], [0, 1, 2, 3]) := by decide +kernel
theorem bf223_45 : am_fetch (am_mth 223) 45 = some (.aload_n 3, 1, [], [0, 1, 2]) := by decide +kernel
theorem bf223_46 : am_fetch (am_mth 223) 46 = some (.invokevirtual 262, 3, [0, 162, 0, 6, 496, 497, 498, 28], [0, 1, 2, 3]) := by decide +kernel
theorem bf223_49 : am_fetch (am_mth 223) 49 = some (.invokestatic 265, 3, [0, 19, 1, 507, 508, 28], [0, 1, 2, 3]) := by decide +kernel
theorem bf223_52 : am_fetch (am_mth 223) 52 = some (.ireturn, 1, [0], [0, 1, 2, 3]) := by decide +kernel
theorem bf223_53 : am_fetch (am_mth 223) 53 = some (.aload_n 3, 1, [], [0, 1, 2]) := by decide +kernel
theorem bf223_54 : am_fetch (am_mth 223) 54 = some (.invokevirtual 268, 3, [0, 199, 0, 6, 510, 511, 512, 28], [0, 1, 2, 3]) := by decide +kernel
theorem bf223_57 : am_fetch (am_mth 223) 57 = some (.invokestatic 200, 3, [0, 26, 1, 478, 371, 17], [0, 1, 2, 3]) := by decide +kernel
theorem bf223_60 : am_fetch (am_mth 223) 60 = some (.ireturn, 1, [0], [0, 1, 2, 3]) := by decide +kernel
theorem bf223_61 : am_fetch (am_mth 223) 61 = some (.aload_n 3, 1, [], [0, 1, 2]) := by decide +kernel
theorem bf223_62 : am_fetch (am_mth 223) 62 = some (.invokevirtual 271, 3, [0, 163, 0, 6, 516, 517, 518, 28], [0, 1, 2, 3]) := by decide +kernel
theorem bf223_65 : am_fetch (am_mth 223) 65 = some (.ireturn, 1, [0], [0, 1, 2, 3]) := by decide +kernel
theorem bk223_0 {w : am_Wd} {l0 : Nat} {l1 : Int32} {l2 : Int32} : am_run 223 0 [some (.ref l0), some (.int l1), some (.int l2), none] [] w = (am_kf w l0 8).bind fun _ => (am_x 31 [.ref l0, .int l1] w).bind fun r => bct r fun v w' => am_run 223 5 [none, none, some (.int l2), none] (v.toList ++ []) w' := by
  refine (bu (ls'' := [none, some (.int l1), some (.int l2), none]) (st' := [.ref l0]) bf223_0 bf223_1 rfl rfl).trans ?_
  refine (bu (ls'' := [none, none, some (.int l2), none]) (st' := [.int l1, .ref l0]) bf223_1 bf223_2 rfl rfl).trans ?_
  exact bkV bf223_2 bf223_5 rfl (by decide +kernel) (Nat.le_of_ble_eq_true rfl) rfl (bhd rfl)
theorem bk223_5 {w : am_Wd} {l2 : Int32} {s0 : Nat} : am_run 223 5 [none, none, some (.int l2), none] [.ref s0] w = (am_x 92 [.int l2, .int (nI 0), .int (nI 3)] w).bind fun r => bct r fun v w' => am_run 223 12 [none, none, some (.int l2), some (.ref s0)] (v.toList ++ []) w' := by
  refine (bu (ls'' := [none, none, some (.int l2), some (.ref s0)]) (st' := []) bf223_5 bf223_6 rfl rfl).trans ?_
  refine (bu (ls'' := [none, none, some (.int l2), some (.ref s0)]) (st' := [.int l2]) bf223_6 bf223_7 rfl rfl).trans ?_
  refine (bu (ls'' := [none, none, some (.int l2), some (.ref s0)]) (st' := [.int (nI 0), .int l2]) bf223_7 bf223_8 rfl rfl).trans ?_
  refine (bu (ls'' := [none, none, some (.int l2), some (.ref s0)]) (st' := [.int (nI 3), .int (nI 0), .int l2]) bf223_8 bf223_9 rfl rfl).trans ?_
  exact bkS bf223_9 bf223_12 rfl (by decide +kernel) (Nat.le_of_ble_eq_true rfl) rfl (bhd rfl)
theorem bk223_12 {w : am_Wd} {l2 : Int32} {l3 : Nat} : am_run 223 12 [none, none, some (.int l2), some (.ref l3)] [] w = if l2 = (nI 0) then am_run 223 40 [none, none, none, some (.ref l3)] [] w else if l2 = (nI 1) then am_run 223 45 [none, none, none, some (.ref l3)] [] w else if l2 = (nI 2) then am_run 223 53 [none, none, none, some (.ref l3)] [] w else am_run 223 61 [none, none, none, some (.ref l3)] [] w := by
  refine (bu (ls'' := [none, none, none, some (.ref l3)]) (st' := [.int l2]) bf223_12 bf223_13 rfl rfl).trans ?_
  refine bsw (fun q => ?_) (fun q0 => ?_)
  · exact bu (ls' := [none, none, none, some (.ref l3)]) (ls'' := [none, none, none, some (.ref l3)]) (st' := []) bf223_13 bf223_40 (by rw [q]; rfl) rfl
  refine bsw (fun q => ?_) (fun q1 => ?_)
  · exact bu (ls' := [none, none, none, some (.ref l3)]) (ls'' := [none, none, none, some (.ref l3)]) (st' := []) bf223_13 bf223_45 (by rw [q]; rfl) rfl
  refine bsw (fun q => ?_) (fun q2 => ?_)
  · exact bu (ls' := [none, none, none, some (.ref l3)]) (ls'' := [none, none, none, some (.ref l3)]) (st' := []) bf223_13 bf223_53 (by rw [q]; rfl) rfl
  exact bsd bf223_13 bf223_61 rfl rfl (bcon (by rfl) q0 (bcon (by rfl) q1 (bcon (by rfl) q2 (bnil)))) rfl
theorem bk223_40 {w : am_Wd} {l3 : Nat} : am_run 223 40 [none, none, none, some (.ref l3)] [] w = (am_kf w l3 6).bind fun _ => (am_x 162 [.ref l3] w).bind fun r => bct r fun v w' => am_run 223 44 [none, none, none, none] (v.toList ++ []) w' := by
  refine (bu (ls'' := [none, none, none, none]) (st' := [.ref l3]) bf223_40 bf223_41 rfl rfl).trans ?_
  exact bkV bf223_41 bf223_44 rfl (by decide +kernel) (Nat.le_of_ble_eq_true rfl) rfl (bhd rfl)
theorem bk223_45 {w : am_Wd} {l3 : Nat} : am_run 223 45 [none, none, none, some (.ref l3)] [] w = (am_kf w l3 6).bind fun _ => (am_x 162 [.ref l3] w).bind fun r => bct r fun v w' => am_run 223 49 [none, none, none, none] (v.toList ++ []) w' := by
  refine (bu (ls'' := [none, none, none, none]) (st' := [.ref l3]) bf223_45 bf223_46 rfl rfl).trans ?_
  exact bkV bf223_46 bf223_49 rfl (by decide +kernel) (Nat.le_of_ble_eq_true rfl) rfl (bhd rfl)
theorem bk223_53 {w : am_Wd} {l3 : Nat} : am_run 223 53 [none, none, none, some (.ref l3)] [] w = (am_kf w l3 6).bind fun _ => (am_x 199 [.ref l3] w).bind fun r => bct r fun v w' => am_run 223 57 [none, none, none, none] (v.toList ++ []) w' := by
  refine (bu (ls'' := [none, none, none, none]) (st' := [.ref l3]) bf223_53 bf223_54 rfl rfl).trans ?_
  exact bkV bf223_54 bf223_57 rfl (by decide +kernel) (Nat.le_of_ble_eq_true rfl) rfl (bhd rfl)
theorem bk223_61 {w : am_Wd} {l3 : Nat} : am_run 223 61 [none, none, none, some (.ref l3)] [] w = (am_kf w l3 6).bind fun _ => (am_x 163 [.ref l3] w).bind fun r => bct r fun v w' => am_run 223 65 [none, none, none, none] (v.toList ++ []) w' := by
  refine (bu (ls'' := [none, none, none, none]) (st' := [.ref l3]) bf223_61 bf223_62 rfl rfl).trans ?_
  exact bkV bf223_62 bf223_65 rfl (by decide +kernel) (Nat.le_of_ble_eq_true rfl) rfl (bhd rfl)
theorem bk223_44 {w : am_Wd} {s0 : Int32} : am_run 223 44 [none, none, none, none] [.int s0] w = some (.inl (some (.int s0)), w) := by
  exact am_e2 bf223_44 rfl (am_ge_rf w)
theorem bk223_49 {w : am_Wd} {s0 : Int32} : am_run 223 49 [none, none, none, none] [.int s0] w = (am_x 19 [.int s0] w).bind fun r => bct r fun v w' => am_run 223 52 [none, none, none, none] (v.toList ++ []) w' := by
  exact bkS bf223_49 bf223_52 rfl (by decide +kernel) (Nat.le_of_ble_eq_true rfl) rfl (bhd rfl)
theorem bk223_57 {w : am_Wd} {s0 : Int32} : am_run 223 57 [none, none, none, none] [.int s0] w = (am_x 26 [.int s0] w).bind fun r => bct r fun v w' => am_run 223 60 [none, none, none, none] (v.toList ++ []) w' := by
  exact bkS bf223_57 bf223_60 rfl (by decide +kernel) (Nat.le_of_ble_eq_true rfl) rfl (bhd rfl)
theorem bk223_65 {w : am_Wd} {s0 : Int32} : am_run 223 65 [none, none, none, none] [.int s0] w = some (.inl (some (.int s0)), w) := by
  exact am_e2 bf223_65 rfl (am_ge_rf w)
theorem bk223_52 {w : am_Wd} {s0 : Int32} : am_run 223 52 [none, none, none, none] [.int s0] w = some (.inl (some (.int s0)), w) := by
  exact am_e2 bf223_52 rfl (am_ge_rf w)
theorem bk223_60 {w : am_Wd} {s0 : Int32} : am_run 223 60 [none, none, none, none] [.int s0] w = some (.inl (some (.int s0)), w) := by
  exact am_e2 bf223_60 rfl (am_ge_rf w)
theorem bf224_0 : am_fetch (am_mth 224) 0 = some (.iconst 0, 1, [], [1, 2]) := by decide +kernel
theorem bf224_1 : am_fetch (am_mth 224) 1 = some (.istore_n 1, 1, [], [1, 2]) := by decide +kernel
theorem bf224_2 : am_fetch (am_mth 224) 2 = some (.iload_n 1, 1, [], [2]) := by decide +kernel
theorem bf224_3 : am_fetch (am_mth 224) 3 = some (.aload_n 0, 1, [], [2]) := by decide +kernel
theorem bf224_4 : am_fetch (am_mth 224) 4 = some (.getfield 18, 3, [0, 8, 1, 64], [2]) := by decide +kernel
theorem bf224_7 : am_fetch (am_mth 224) 7 = some (.arraylength, 1, [], [2]) := by decide +kernel
theorem bf224_8 : am_fetch (am_mth 224) 8 = some (.if_icmp .ge 37, 3, [], [2]) := by decide +kernel
theorem bf224_11 : am_fetch (am_mth 224) 11 = some (.aload_n 0, 1, [], [2]) := by decide +kernel
theorem bf224_12 : am_fetch (am_mth 224) 12 = some (.getfield 18, 3, [0, 8, 1, 64], [2]) := by decide +kernel
theorem bf224_15 : am_fetch (am_mth 224) 15 = some (.iload_n 1, 1, [], [2]) := by decide +kernel
theorem bf224_16 : am_fetch (am_mth 224) 16 = some (.aaload, 1, [], [2]) := by decide +kernel
theorem bf224_17 : am_fetch (am_mth 224) 17 = some (.astore_n 2, 1, [], [2]) := by decide +kernel
theorem bf224_18 : am_fetch (am_mth 224) 18 = some (.aload_n 2, 1, [], []) := by decide +kernel
theorem bf224_19 : am_fetch (am_mth 224) 19 = some (.ifnull 20, 3, [], []) := by decide +kernel
theorem bf224_22 : am_fetch (am_mth 224) 22 = some (.aload_n 2, 1, [], []) := by decide +kernel
theorem bf224_23 : am_fetch (am_mth 224) 23 = some (.invokevirtual 287, 3, [0, 130, 0, 6, 555, 556, 557, 28], []) := by decide +kernel
theorem bf224_26 : am_fetch (am_mth 224) 26 = some (.ifCond .eq 11, 3, [], []) := by decide +kernel
theorem bf224_29 : am_fetch (am_mth 224) 29 = some (.aload_n 0, 1, [], []) := by decide +kernel
theorem bf224_30 : am_fetch (am_mth 224) 30 = some (.aload_n 2, 1, [], []) := by decide +kernel
theorem bf224_31 : am_fetch (am_mth 224) 31 = some (.invokevirtual 290, 3, [0, 205, 1, 8, 559, 561, 8, 17], [2]) := by decide +kernel
theorem bf224_34 : am_fetch (am_mth 224) 34 = some (.ifCond .ne 5, 3, [], [2]) := by decide +kernel
theorem bf224_37 : am_fetch (am_mth 224) 37 = some (.iconst 0, 1, [], [0, 1, 2]) := by decide +kernel
theorem bf224_38 : am_fetch (am_mth 224) 38 = some (.ireturn, 1, [1], [0, 1, 2]) := by decide +kernel
theorem bf224_39 : am_fetch (am_mth 224) 39 = some (.iinc 1 1, 3, [], [2]) := by decide +kernel
theorem bf224_42 : am_fetch (am_mth 224) 42 = some (.goto (-40), 3, [], [2]) := by decide +kernel
theorem bf224_45 : am_fetch (am_mth 224) 45 = some (.iconst 1, 1, [], [0, 1, 2]) := by decide +kernel
theorem bf224_46 : am_fetch (am_mth 224) 46 = some (.ireturn, 1, [1], [0, 1, 2]) := by decide +kernel
theorem bk224_0 {w : am_Wd} {l0 : Nat} : am_run 224 0 [some (.ref l0), none, none] [] w = am_run 224 2 [some (.ref l0), some (.int (nI 0)), none] [] w := by
  refine (bu (ls'' := [some (.ref l0), none, none]) (st' := [.int (nI 0)]) bf224_0 bf224_1 rfl rfl).trans ?_
  refine (bu (ls'' := [some (.ref l0), some (.int (nI 0)), none]) (st' := []) bf224_1 bf224_2 rfl rfl).trans ?_
  rfl
theorem bk224_2 {w : am_Wd} {l0 : Nat} {l1 : Int32} : am_run 224 2 [some (.ref l0), some (.int l1), none] [] w = (am_gf w l0 8 1).bind fun v => am_run 224 7 [some (.ref l0), some (.int l1), none] (v :: [.int l1]) w := by
  refine (bu (ls'' := [some (.ref l0), some (.int l1), none]) (st' := [.int l1]) bf224_2 bf224_3 rfl rfl).trans ?_
  refine (bu (ls'' := [some (.ref l0), some (.int l1), none]) (st' := [.ref l0, .int l1]) bf224_3 bf224_4 rfl rfl).trans ?_
  exact bh bf224_4 bf224_7 rfl (fun _ _ => am_ge_rf w) rfl
theorem bk224_7 {w : am_Wd} {l0 : Nat} {l1 : Int32} {s0 : Nat} {s1 : Int32} : am_run 224 7 [some (.ref l0), some (.int l1), none] [.ref s0, .int s1] w = (am_len w s0).bind fun v => am_run 224 8 [some (.ref l0), some (.int l1), none] (.int (nI v) :: [.int s1]) w := by
  exact bh bf224_7 bf224_8 rfl (fun _ _ => am_ge_rf w) rfl
theorem bk224_8 {w : am_Wd} {l0 : Nat} {l1 : Int32} {s0 : Int32} {s1 : Int32} : am_run 224 8 [some (.ref l0), some (.int l1), none] [.int s0, .int s1] w = if s0 ≤ s1 then am_run 224 45 [none, none, none] [] w else am_run 224 11 [some (.ref l0), some (.int l1), none] [] w := by
  exact bic bf224_8 rfl bf224_45 bf224_11 rfl rfl rfl
theorem bk224_45 {w : am_Wd}  : am_run 224 45 [none, none, none] [] w = some (.inl (some (.int (nI 1))), w) := by
  refine (bu (ls'' := [none, none, none]) (st' := [.int (nI 1)]) bf224_45 bf224_46 rfl rfl).trans ?_
  exact am_e2 bf224_46 rfl (am_ge_rf w)
theorem bk224_11 {w : am_Wd} {l0 : Nat} {l1 : Int32} : am_run 224 11 [some (.ref l0), some (.int l1), none] [] w = (am_gf w l0 8 1).bind fun v => am_run 224 15 [some (.ref l0), some (.int l1), none] (v :: []) w := by
  refine (bu (ls'' := [some (.ref l0), some (.int l1), none]) (st' := [.ref l0]) bf224_11 bf224_12 rfl rfl).trans ?_
  exact bh bf224_12 bf224_15 rfl (fun _ _ => am_ge_rf w) rfl
theorem bk224_15 {w : am_Wd} {l0 : Nat} {l1 : Int32} {s0 : Nat} : am_run 224 15 [some (.ref l0), some (.int l1), none] [.ref s0] w = (am_rq w s0 l1).bind fun v => am_run 224 17 [some (.ref l0), some (.int l1), none] (v :: []) w := by
  refine (bu (ls'' := [some (.ref l0), some (.int l1), none]) (st' := [.int l1, .ref s0]) bf224_15 bf224_16 rfl rfl).trans ?_
  exact bh bf224_16 bf224_17 rfl (fun _ _ => am_ge_rf w) rfl
theorem bk224_17 {w : am_Wd} {l0 : Nat} {l1 : Int32} {s0 : Nat} : am_run 224 17 [some (.ref l0), some (.int l1), none] [.ref s0] w = (am_kf w s0 6).bind fun _ => (am_x 130 [.ref s0] w).bind fun r => bct r fun v w' => am_run 224 26 [some (.ref l0), some (.int l1), some (.ref s0)] (v.toList ++ []) w' := by
  refine (bu (ls'' := [some (.ref l0), some (.int l1), some (.ref s0)]) (st' := []) bf224_17 bf224_18 rfl rfl).trans ?_
  refine (bu (ls'' := [some (.ref l0), some (.int l1), some (.ref s0)]) (st' := [.ref s0]) bf224_18 bf224_19 rfl rfl).trans ?_
  refine (bu (ls'' := [some (.ref l0), some (.int l1), some (.ref s0)]) (st' := []) bf224_19 bf224_22 rfl rfl).trans ?_
  refine (bu (ls'' := [some (.ref l0), some (.int l1), some (.ref s0)]) (st' := [.ref s0]) bf224_22 bf224_23 rfl rfl).trans ?_
  exact bkV bf224_23 bf224_26 rfl (by decide +kernel) (Nat.le_of_ble_eq_true rfl) rfl (bhd rfl)
theorem bk224_17a {w : am_Wd} {l0 : Nat} {l1 : Int32} : am_run 224 17 [some (.ref l0), some (.int l1), none] [.null] w = am_run 224 39 [some (.ref l0), some (.int l1), none] [] w := by
  refine (bu (ls'' := [some (.ref l0), some (.int l1), some (.null)]) (st' := []) bf224_17 bf224_18 rfl rfl).trans ?_
  refine (bu (ls'' := [some (.ref l0), some (.int l1), some (.null)]) (st' := [.null]) bf224_18 bf224_19 rfl rfl).trans ?_
  refine (bu (ls'' := [some (.ref l0), some (.int l1), none]) (st' := []) bf224_19 bf224_39 rfl rfl).trans ?_
  rfl
theorem bk224_26 {w : am_Wd} {l0 : Nat} {l1 : Int32} {l2 : Nat} {s0 : Int32} : am_run 224 26 [some (.ref l0), some (.int l1), some (.ref l2)] [.int s0] w = if s0 = nI 0 then am_run 224 37 [none, none, none] [] w else am_run 224 29 [some (.ref l0), some (.int l1), some (.ref l2)] [] w := by
  exact bifc bf224_26 rfl bf224_37 bf224_29 rfl rfl rfl
theorem bk224_39 {w : am_Wd} {l0 : Nat} {l1 : Int32} : am_run 224 39 [some (.ref l0), some (.int l1), none] [] w = am_run 224 2 [some (.ref l0), some (.int (l1 + (nI 1))), none] [] w := by
  refine (bu (ls'' := [some (.ref l0), some (.int (l1 + (nI 1))), none]) (st' := []) bf224_39 bf224_42 rfl rfl).trans ?_
  refine (bu (ls'' := [some (.ref l0), some (.int (l1 + (nI 1))), none]) (st' := []) bf224_42 bf224_2 rfl rfl).trans ?_
  rfl
theorem bk224_37 {w : am_Wd}  : am_run 224 37 [none, none, none] [] w = some (.inl (some (.int (nI 0))), w) := by
  refine (bu (ls'' := [none, none, none]) (st' := [.int (nI 0)]) bf224_37 bf224_38 rfl rfl).trans ?_
  exact am_e2 bf224_38 rfl (am_ge_rf w)
theorem bk224_29 {w : am_Wd} {l0 : Nat} {l1 : Int32} {l2 : Nat} : am_run 224 29 [some (.ref l0), some (.int l1), some (.ref l2)] [] w = (am_kf w l0 8).bind fun _ => (am_x 205 [.ref l0, .ref l2] w).bind fun r => bct r fun v w' => am_run 224 34 [some (.ref l0), some (.int l1), none] (v.toList ++ []) w' := by
  refine (bu (ls'' := [some (.ref l0), some (.int l1), some (.ref l2)]) (st' := [.ref l0]) bf224_29 bf224_30 rfl rfl).trans ?_
  refine (bu (ls'' := [some (.ref l0), some (.int l1), none]) (st' := [.ref l2, .ref l0]) bf224_30 bf224_31 rfl rfl).trans ?_
  exact bkV bf224_31 bf224_34 rfl (by decide +kernel) (Nat.le_of_ble_eq_true rfl) rfl (bhd rfl)
theorem bk224_34 {w : am_Wd} {l0 : Nat} {l1 : Int32} {s0 : Int32} : am_run 224 34 [some (.ref l0), some (.int l1), none] [.int s0] w = if ¬ s0 = nI 0 then am_run 224 39 [some (.ref l0), some (.int l1), none] [] w else am_run 224 37 [none, none, none] [] w := by
  exact bifc bf224_34 rfl bf224_39 bf224_37 rfl rfl rfl
theorem bf225_0 : am_fetch (am_mth 225) 0 = some (.aload_n 1, 1, [], []) := by decide +kernel
theorem bf225_1 : am_fetch (am_mth 225) 1 = some (.getfield 158, 3, [1, 6, 4, 308], []) := by decide +kernel
theorem bf225_4 : am_fetch (am_mth 225) 4 = some (.ifCond .gt 14, 3, [], []) := by decide +kernel
theorem bf225_7 : am_fetch (am_mth 225) 7 = some (.new 79, 3, [2, 2, 234, 27, 585, 349, 83], [0, 1, 2]) := by decide +kernel
theorem bf225_10 : am_fetch (am_mth 225) 10 = some (.dup, 1, [], [0, 1, 2]) := by decide +kernel
theorem bf225_11 : am_fetch (am_mth 225) 11 = some (.ldc_w 349, 3, [1, 18, 585], [0, 1, 2]) := by decide +kernel
theorem bf225_14 : am_fetch (am_mth 225) 14 = some (.invokespecial 83, 3, [], [0, 1, 2]) := by decide +kernel
theorem bf225_17 : am_fetch (am_mth 225) 17 = some (.athrow, 1, [], [0, 1, 2]) := by decide +kernel
theorem bf225_18 : am_fetch (am_mth 225) 18 = some (.iload_n 2, 1, [], []) := by decide +kernel
theorem bf225_19 : am_fetch (am_mth 225) 19 = some (.ifCond .ne 21, 3, [], [2]) := by decide +kernel
theorem bf225_22 : am_fetch (am_mth 225) 22 = some (.aload_n 1, 1, [], [2]) := by decide +kernel
theorem bf225_23 : am_fetch (am_mth 225) 23 = some (.invokevirtual 268, 3, [0, 199, 0, 6, 510, 511, 512, 28], [1, 2]) := by decide +kernel
theorem bf225_26 : am_fetch (am_mth 225) 26 = some (.ifCond .ne 14, 3, [], [1, 2]) := by decide +kernel
theorem bf225_29 : am_fetch (am_mth 225) 29 = some (.new 79, 3, [2, 2, 234, 27, 586, 351, 83], [0, 1, 2]) := by decide +kernel
theorem bf225_32 : am_fetch (am_mth 225) 32 = some (.dup, 1, [], [0, 1, 2]) := by decide +kernel
theorem bf225_33 : am_fetch (am_mth 225) 33 = some (.ldc_w 351, 3, [1, 19, 586], [0, 1, 2]) := by decide +kernel
theorem bf225_36 : am_fetch (am_mth 225) 36 = some (.invokespecial 83, 3, [], [0, 1, 2]) := by decide +kernel
theorem bf225_39 : am_fetch (am_mth 225) 39 = some (.athrow, 1, [], [0, 1, 2]) := by decide +kernel
theorem bf225_40 : am_fetch (am_mth 225) 40 = some (.aload_n 0, 1, [], [1, 2]) := by decide +kernel
theorem bf225_41 : am_fetch (am_mth 225) 41 = some (.getfield 192, 3, [0, 8, 3, 66], [0, 1, 2]) := by decide +kernel
theorem bf225_44 : am_fetch (am_mth 225) 44 = some (.sipush 3000, 3, [], [0, 1, 2]) := by decide +kernel
theorem bf225_47 : am_fetch (am_mth 225) 47 = some (.if_icmp .lt 14, 3, [], [0, 1, 2]) := by decide +kernel
theorem bf225_50 : am_fetch (am_mth 225) 50 = some (.new 79, 3, [2, 2, 234, 27, 587, 353, 83], [0, 1, 2]) := by decide +kernel
theorem bf225_53 : am_fetch (am_mth 225) 53 = some (.dup, 1, [], [0, 1, 2]) := by decide +kernel
theorem bf225_54 : am_fetch (am_mth 225) 54 = some (.ldc_w 353, 3, [1, 20, 587], [0, 1, 2]) := by decide +kernel
theorem bf225_57 : am_fetch (am_mth 225) 57 = some (.invokespecial 83, 3, [], [0, 1, 2]) := by decide +kernel
theorem bf225_60 : am_fetch (am_mth 225) 60 = some (.athrow, 1, [], [0, 1, 2]) := by decide +kernel
theorem bf225_61 : am_fetch (am_mth 225) 61 = some (.return_, 1, [], [0, 1, 2]) := by decide +kernel
theorem bk225_0 {w : am_Wd} {l0 : Nat} {l1 : Nat} {l2 : Int32} : am_run 225 0 [some (.ref l0), some (.ref l1), some (.int l2)] [] w = (am_gf w l1 6 4).bind fun v => am_run 225 4 [some (.ref l0), some (.ref l1), some (.int l2)] (v :: []) w := by
  refine (bu (ls'' := [some (.ref l0), some (.ref l1), some (.int l2)]) (st' := [.ref l1]) bf225_0 bf225_1 rfl rfl).trans ?_
  exact bh bf225_1 bf225_4 rfl (fun _ _ => am_ge_rf w) rfl
theorem bk225_4 {w : am_Wd} {l0 : Nat} {l1 : Nat} {l2 : Int32} {s0 : Int32} : am_run 225 4 [some (.ref l0), some (.ref l1), some (.int l2)] [.int s0] w = if nI 0 < s0 then am_run 225 18 [some (.ref l0), some (.ref l1), some (.int l2)] [] w else am_run 225 7 [none, none, none] [] w := by
  exact bifc bf225_4 rfl bf225_18 bf225_7 rfl rfl rfl
theorem bk225_18 {w : am_Wd} {l0 : Nat} {l1 : Nat} {l2 : Int32} : am_run 225 18 [some (.ref l0), some (.ref l1), some (.int l2)] [] w = if ¬ l2 = nI 0 then am_run 225 40 [some (.ref l0), none, none] [] w else am_run 225 22 [some (.ref l0), some (.ref l1), none] [] w := by
  refine (bu (ls'' := [some (.ref l0), some (.ref l1), none]) (st' := [.int l2]) bf225_18 bf225_19 rfl rfl).trans ?_
  exact bifc bf225_19 rfl bf225_40 bf225_22 rfl rfl rfl
theorem bk225_7 {w : am_Wd}  : am_run 225 7 [none, none, none] [] w = some (.inr (am_xn 2), am_jk w 1 6) := by
  exact am_e2 bf225_7 rfl (am_ge_jk _ _ _)
theorem bk225_40 {w : am_Wd} {l0 : Nat} : am_run 225 40 [some (.ref l0), none, none] [] w = (am_gf w l0 8 3).bind fun v => am_run 225 44 [none, none, none] (v :: []) w := by
  refine (bu (ls'' := [none, none, none]) (st' := [.ref l0]) bf225_40 bf225_41 rfl rfl).trans ?_
  exact bh bf225_41 bf225_44 rfl (fun _ _ => am_ge_rf w) rfl
theorem bk225_22 {w : am_Wd} {l0 : Nat} {l1 : Nat} : am_run 225 22 [some (.ref l0), some (.ref l1), none] [] w = (am_kf w l1 6).bind fun _ => (am_x 199 [.ref l1] w).bind fun r => bct r fun v w' => am_run 225 26 [some (.ref l0), none, none] (v.toList ++ []) w' := by
  refine (bu (ls'' := [some (.ref l0), none, none]) (st' := [.ref l1]) bf225_22 bf225_23 rfl rfl).trans ?_
  exact bkV bf225_23 bf225_26 rfl (by decide +kernel) (Nat.le_of_ble_eq_true rfl) rfl (bhd rfl)
theorem bk225_44 {w : am_Wd} {s0 : Int32} : am_run 225 44 [none, none, none] [.int s0] w = if s0 < (nI 3000) then am_run 225 61 [none, none, none] [] w else am_run 225 50 [none, none, none] [] w := by
  refine (bu (ls'' := [none, none, none]) (st' := [.int (nI 3000), .int s0]) bf225_44 bf225_47 rfl rfl).trans ?_
  exact bic bf225_47 rfl bf225_61 bf225_50 rfl rfl rfl
theorem bk225_26 {w : am_Wd} {l0 : Nat} {s0 : Int32} : am_run 225 26 [some (.ref l0), none, none] [.int s0] w = if ¬ s0 = nI 0 then am_run 225 40 [some (.ref l0), none, none] [] w else am_run 225 29 [none, none, none] [] w := by
  exact bifc bf225_26 rfl bf225_40 bf225_29 rfl rfl rfl
theorem bk225_61 {w : am_Wd}  : am_run 225 61 [none, none, none] [] w = some (.inl none, w) := by
  exact am_e2 bf225_61 rfl (am_ge_rf w)
theorem bk225_50 {w : am_Wd}  : am_run 225 50 [none, none, none] [] w = some (.inr (am_xn 2), am_jk w 1 6) := by
  exact am_e2 bf225_50 rfl (am_ge_jk _ _ _)
theorem bk225_29 {w : am_Wd}  : am_run 225 29 [none, none, none] [] w = some (.inr (am_xn 2), am_jk w 1 6) := by
  exact am_e2 bf225_29 rfl (am_ge_jk _ _ _)
theorem bf239_0 : am_fetch (am_mth 239) 0 = some (.aload_n 0, 1, [], [3, 4]) := by decide +kernel
theorem bf239_1 : am_fetch (am_mth 239) 1 = some (.iload_n 1, 1, [], [3, 4]) := by decide +kernel
theorem bf239_2 : am_fetch (am_mth 239) 2 = some (.invokevirtual 89, 3, [0, 31, 1, 8, 343, 345, 1, 17], [1, 3, 4]) := by decide +kernel
theorem bf239_5 : am_fetch (am_mth 239) 5 = some (.astore_n 3, 1, [], [1, 3, 4]) := by decide +kernel
theorem bf239_6 : am_fetch (am_mth 239) 6 = some (.aload_n 0, 1, [], [1, 4]) := by decide +kernel
theorem bf239_7 : am_fetch (am_mth 239) 7 = some (.aload_n 3, 1, [], [1, 4]) := by decide +kernel
theorem bf239_8 : am_fetch (am_mth 239) 8 = some (.iload_n 2, 1, [], [1, 4]) := by decide +kernel
theorem bf239_9 : am_fetch (am_mth 239) 9 = some (.invokevirtual 93, 3, [0, 225, 2, 8, 581, 583, 9, 17], [1, 2, 4]) := by decide +kernel
theorem bf239_12 : am_fetch (am_mth 239) 12 = some (.aload_n 0, 1, [], [1, 2, 4]) := by decide +kernel
theorem bf239_13 : am_fetch (am_mth 239) 13 = some (.aload_n 3, 1, [], [1, 2, 4]) := by decide +kernel
theorem bf239_14 : am_fetch (am_mth 239) 14 = some (.invokevirtual 97, 3, [0, 171, 1, 8, 588, 590, 10, 17], [1, 2, 4]) := by decide +kernel
theorem bf239_17 : am_fetch (am_mth 239) 17 = some (.ifCond .eq 13, 3, [], [1, 2, 4]) := by decide +kernel
theorem bf239_20 : am_fetch (am_mth 239) 20 = some (.new 79, 3, [1, 2, 234, 27, 595, 101, 83], [0, 1, 2, 3, 4]) := by decide +kernel
theorem bf239_23 : am_fetch (am_mth 239) 23 = some (.dup, 1, [], [0, 1, 2, 3, 4]) := by decide +kernel
theorem bf239_24 : am_fetch (am_mth 239) 24 = some (.ldc 101, 2, [1, 11, 595], [0, 1, 2, 3, 4]) := by decide +kernel
theorem bf239_26 : am_fetch (am_mth 239) 26 = some (.invokespecial 83, 3, [], [0, 1, 2, 3, 4]) := by decide +kernel
theorem bf239_29 : am_fetch (am_mth 239) 29 = some (.athrow, 1, [], [0, 1, 2, 3, 4]) := by decide +kernel
theorem bf239_30 : am_fetch (am_mth 239) 30 = some (.aload_n 0, 1, [], [1, 2, 4]) := by decide +kernel
theorem bf239_31 : am_fetch (am_mth 239) 31 = some (.getfield 10, 3, [0, 8, 0, 63], [1, 2, 4]) := by decide +kernel
theorem bf239_34 : am_fetch (am_mth 239) 34 = some (.aload_n 3, 1, [], [1, 2, 4]) := by decide +kernel
theorem bf239_35 : am_fetch (am_mth 239) 35 = some (.invokevirtual 103, 3, [0, 17, 0, 6, 596, 597, 598, 28], [1, 2, 4]) := by decide +kernel
theorem bf239_38 : am_fetch (am_mth 239) 38 = some (.aload_n 3, 1, [], [1, 2, 4]) := by decide +kernel
theorem bf239_39 : am_fetch (am_mth 239) 39 = some (.invokevirtual 107, 3, [0, 18, 0, 6, 600, 601, 602, 28], [1, 2, 4]) := by decide +kernel
theorem bf239_42 : am_fetch (am_mth 239) 42 = some (.aload_n 0, 1, [], [1, 2, 4]) := by decide +kernel
theorem bf239_43 : am_fetch (am_mth 239) 43 = some (.invokevirtual 110, 3, [0, 33, 0, 8, 348, 350, 2, 17], [1, 2, 4]) := by decide +kernel
theorem bf239_46 : am_fetch (am_mth 239) 46 = some (.invokevirtual 113, 3, [0, 126, 3, 5, 477, 364, 365, 18], [1, 2, 4]) := by decide +kernel
theorem bf239_49 : am_fetch (am_mth 239) 49 = some (.istore 4, 2, [], [1, 2, 4]) := by decide +kernel
theorem bf239_51 : am_fetch (am_mth 239) 51 = some (.iload 4, 2, [], [1, 2]) := by decide +kernel
theorem bf239_53 : am_fetch (am_mth 239) 53 = some (.ifCond .eq 16, 3, [], [1, 2]) := by decide +kernel
theorem bf239_56 : am_fetch (am_mth 239) 56 = some (.aload_n 3, 1, [], [1, 2]) := by decide +kernel
theorem bf239_57 : am_fetch (am_mth 239) 57 = some (.dup, 1, [], [1, 2]) := by decide +kernel
theorem bf239_58 : am_fetch (am_mth 239) 58 = some (.getfield 117, 3, [1, 6, 7, 312], [1, 2]) := by decide +kernel
theorem bf239_61 : am_fetch (am_mth 239) 61 = some (.iconst 1, 1, [], [1, 2]) := by decide +kernel
theorem bf239_62 : am_fetch (am_mth 239) 62 = some (.iadd, 1, [], [1, 2]) := by decide +kernel
theorem bf239_63 : am_fetch (am_mth 239) 63 = some (.putfield 117, 3, [1, 6, 7, 312], [1, 2]) := by decide +kernel
theorem bf239_66 : am_fetch (am_mth 239) 66 = some (.goto 8, 3, [], [1, 2]) := by decide +kernel
theorem bf239_69 : am_fetch (am_mth 239) 69 = some (.aload_n 0, 1, [], [1, 2]) := by decide +kernel
theorem bf239_70 : am_fetch (am_mth 239) 70 = some (.aload_n 3, 1, [], [1, 2]) := by decide +kernel
theorem bf239_71 : am_fetch (am_mth 239) 71 = some (.invokevirtual 120, 3, [0, 141, 1, 8, 604, 606, 11, 17], [1, 2]) := by decide +kernel
theorem bf239_74 : am_fetch (am_mth 239) 74 = some (.aload_n 3, 1, [], [1, 2]) := by decide +kernel
theorem bf239_75 : am_fetch (am_mth 239) 75 = some (.iload 4, 2, [], [1, 2]) := by decide +kernel
theorem bf239_77 : am_fetch (am_mth 239) 77 = some (.invokevirtual 124, 3, [0, 160, 1, 6, 620, 621, 622, 28], [1, 2]) := by decide +kernel
theorem bf239_80 : am_fetch (am_mth 239) 80 = some (.aload_n 0, 1, [], [1, 2]) := by decide +kernel
theorem bf239_81 : am_fetch (am_mth 239) 81 = some (.aload_n 3, 1, [], [0, 1, 2]) := by decide +kernel
theorem bf239_82 : am_fetch (am_mth 239) 82 = some (.invokevirtual 127, 3, [0, 32, 1, 8, 641, 643, 15, 17], [0, 1, 2, 3]) := by decide +kernel
theorem bf239_85 : am_fetch (am_mth 239) 85 = some (.iload 4, 2, [], [0, 1, 2, 3]) := by decide +kernel
theorem bf239_87 : am_fetch (am_mth 239) 87 = some (.ireturn, 1, [1], [0, 1, 2, 3, 4]) := by decide +kernel
theorem bk239_0 {w : am_Wd} {l0 : Nat} {l1 : Int32} {l2 : Int32} : am_run 239 0 [some (.ref l0), some (.int l1), some (.int l2), none, none] [] w = (am_kf w l0 8).bind fun _ => (am_x 31 [.ref l0, .int l1] w).bind fun r => bct r fun v w' => am_run 239 5 [some (.ref l0), none, some (.int l2), none, none] (v.toList ++ []) w' := by
  refine (bu (ls'' := [some (.ref l0), some (.int l1), some (.int l2), none, none]) (st' := [.ref l0]) bf239_0 bf239_1 rfl rfl).trans ?_
  refine (bu (ls'' := [some (.ref l0), none, some (.int l2), none, none]) (st' := [.int l1, .ref l0]) bf239_1 bf239_2 rfl rfl).trans ?_
  exact bkV bf239_2 bf239_5 rfl (by decide +kernel) (Nat.le_of_ble_eq_true rfl) rfl (bhd rfl)
theorem bk239_5 {w : am_Wd} {l0 : Nat} {l2 : Int32} {s0 : Nat} : am_run 239 5 [some (.ref l0), none, some (.int l2), none, none] [.ref s0] w = (am_kf w l0 8).bind fun _ => (am_x 225 [.ref l0, .ref s0, .int l2] w).bind fun r => bct r fun v w' => am_run 239 12 [some (.ref l0), none, none, some (.ref s0), none] (v.toList ++ []) w' := by
  refine (bu (ls'' := [some (.ref l0), none, some (.int l2), some (.ref s0), none]) (st' := []) bf239_5 bf239_6 rfl rfl).trans ?_
  refine (bu (ls'' := [some (.ref l0), none, some (.int l2), some (.ref s0), none]) (st' := [.ref l0]) bf239_6 bf239_7 rfl rfl).trans ?_
  refine (bu (ls'' := [some (.ref l0), none, some (.int l2), some (.ref s0), none]) (st' := [.ref s0, .ref l0]) bf239_7 bf239_8 rfl rfl).trans ?_
  refine (bu (ls'' := [some (.ref l0), none, none, some (.ref s0), none]) (st' := [.int l2, .ref s0, .ref l0]) bf239_8 bf239_9 rfl rfl).trans ?_
  exact bkV bf239_9 bf239_12 rfl (by decide +kernel) (Nat.le_of_ble_eq_true rfl) rfl (bhd rfl)
theorem bk239_12 {w : am_Wd} {l0 : Nat} {l3 : Nat} : am_run 239 12 [some (.ref l0), none, none, some (.ref l3), none] [] w = (am_kf w l0 8).bind fun _ => (am_x 171 [.ref l0, .ref l3] w).bind fun r => bct r fun v w' => am_run 239 17 [some (.ref l0), none, none, some (.ref l3), none] (v.toList ++ []) w' := by
  refine (bu (ls'' := [some (.ref l0), none, none, some (.ref l3), none]) (st' := [.ref l0]) bf239_12 bf239_13 rfl rfl).trans ?_
  refine (bu (ls'' := [some (.ref l0), none, none, some (.ref l3), none]) (st' := [.ref l3, .ref l0]) bf239_13 bf239_14 rfl rfl).trans ?_
  exact bkV bf239_14 bf239_17 rfl (by decide +kernel) (Nat.le_of_ble_eq_true rfl) rfl (bhd rfl)
theorem bk239_17 {w : am_Wd} {l0 : Nat} {l3 : Nat} {s0 : Int32} : am_run 239 17 [some (.ref l0), none, none, some (.ref l3), none] [.int s0] w = if s0 = nI 0 then am_run 239 30 [some (.ref l0), none, none, some (.ref l3), none] [] w else am_run 239 20 [none, none, none, none, none] [] w := by
  exact bifc bf239_17 rfl bf239_30 bf239_20 rfl rfl rfl
theorem bk239_30 {w : am_Wd} {l0 : Nat} {l3 : Nat} : am_run 239 30 [some (.ref l0), none, none, some (.ref l3), none] [] w = (am_gf w l0 8 0).bind fun v => am_run 239 34 [some (.ref l0), none, none, some (.ref l3), none] (v :: []) w := by
  refine (bu (ls'' := [some (.ref l0), none, none, some (.ref l3), none]) (st' := [.ref l0]) bf239_30 bf239_31 rfl rfl).trans ?_
  exact bh bf239_31 bf239_34 rfl (fun _ _ => am_ge_rf w) rfl
theorem bk239_20 {w : am_Wd}  : am_run 239 20 [none, none, none, none, none] [] w = some (.inr (am_xn 2), am_jk w 1 6) := by
  exact am_e2 bf239_20 rfl (am_ge_jk _ _ _)
theorem bk239_34 {w : am_Wd} {l0 : Nat} {l3 : Nat} {s0 : Nat} : am_run 239 34 [some (.ref l0), none, none, some (.ref l3), none] [.ref s0] w = (am_kf w l3 6).bind fun _ => (am_x 17 [.ref l3] w).bind fun r => bct r fun v w' => am_run 239 38 [some (.ref l0), none, none, some (.ref l3), none] (v.toList ++ [.ref s0]) w' := by
  refine (bu (ls'' := [some (.ref l0), none, none, some (.ref l3), none]) (st' := [.ref l3, .ref s0]) bf239_34 bf239_35 rfl rfl).trans ?_
  exact bkV bf239_35 bf239_38 rfl (by decide +kernel) (Nat.le_of_ble_eq_true rfl) rfl (bhd rfl)
theorem bk239_38 {w : am_Wd} {l0 : Nat} {l3 : Nat} {s0 : Int32} {s1 : Nat} : am_run 239 38 [some (.ref l0), none, none, some (.ref l3), none] [.int s0, .ref s1] w = (am_kf w l3 6).bind fun _ => (am_x 18 [.ref l3] w).bind fun r => bct r fun v w' => am_run 239 42 [some (.ref l0), none, none, some (.ref l3), none] (v.toList ++ [.int s0, .ref s1]) w' := by
  refine (bu (ls'' := [some (.ref l0), none, none, some (.ref l3), none]) (st' := [.ref l3, .int s0, .ref s1]) bf239_38 bf239_39 rfl rfl).trans ?_
  exact bkV bf239_39 bf239_42 rfl (by decide +kernel) (Nat.le_of_ble_eq_true rfl) rfl (bhd rfl)
theorem bk239_42 {w : am_Wd} {l0 : Nat} {l3 : Nat} {s0 : Int32} {s1 : Int32} {s2 : Nat} : am_run 239 42 [some (.ref l0), none, none, some (.ref l3), none] [.int s0, .int s1, .ref s2] w = (am_kf w l0 8).bind fun _ => (am_x 33 [.ref l0] w).bind fun r => bct r fun v w' => am_run 239 46 [some (.ref l0), none, none, some (.ref l3), none] (v.toList ++ [.int s0, .int s1, .ref s2]) w' := by
  refine (bu (ls'' := [some (.ref l0), none, none, some (.ref l3), none]) (st' := [.ref l0, .int s0, .int s1, .ref s2]) bf239_42 bf239_43 rfl rfl).trans ?_
  exact bkV bf239_43 bf239_46 rfl (by decide +kernel) (Nat.le_of_ble_eq_true rfl) rfl (bhd rfl)
theorem bk239_46 {w : am_Wd} {l0 : Nat} {l3 : Nat} {s0 : Int32} {s1 : Int32} {s2 : Int32} {s3 : Nat} : am_run 239 46 [some (.ref l0), none, none, some (.ref l3), none] [.int s0, .int s1, .int s2, .ref s3] w = (am_kf w s3 5).bind fun _ => (am_x 126 [.ref s3, .int s2, .int s1, .int s0] w).bind fun r => bct r fun v w' => am_run 239 49 [some (.ref l0), none, none, some (.ref l3), none] (v.toList ++ []) w' := by
  exact bkV bf239_46 bf239_49 rfl (by decide +kernel) (Nat.le_of_ble_eq_true rfl) rfl (bhd rfl)
theorem bk239_49 {w : am_Wd} {l0 : Nat} {l3 : Nat} {s0 : Int32} : am_run 239 49 [some (.ref l0), none, none, some (.ref l3), none] [.int s0] w = if s0 = nI 0 then am_run 239 69 [some (.ref l0), none, none, some (.ref l3), some (.int s0)] [] w else am_run 239 56 [some (.ref l0), none, none, some (.ref l3), some (.int s0)] [] w := by
  refine (bu (ls'' := [some (.ref l0), none, none, some (.ref l3), some (.int s0)]) (st' := []) bf239_49 bf239_51 rfl rfl).trans ?_
  refine (bu (ls'' := [some (.ref l0), none, none, some (.ref l3), some (.int s0)]) (st' := [.int s0]) bf239_51 bf239_53 rfl rfl).trans ?_
  exact bifc bf239_53 rfl bf239_69 bf239_56 rfl rfl rfl
theorem bk239_69 {w : am_Wd} {l0 : Nat} {l3 : Nat} {l4 : Int32} : am_run 239 69 [some (.ref l0), none, none, some (.ref l3), some (.int l4)] [] w = (am_kf w l0 8).bind fun _ => (am_x 141 [.ref l0, .ref l3] w).bind fun r => bct r fun v w' => am_run 239 74 [some (.ref l0), none, none, some (.ref l3), some (.int l4)] (v.toList ++ []) w' := by
  refine (bu (ls'' := [some (.ref l0), none, none, some (.ref l3), some (.int l4)]) (st' := [.ref l0]) bf239_69 bf239_70 rfl rfl).trans ?_
  refine (bu (ls'' := [some (.ref l0), none, none, some (.ref l3), some (.int l4)]) (st' := [.ref l3, .ref l0]) bf239_70 bf239_71 rfl rfl).trans ?_
  exact bkV bf239_71 bf239_74 rfl (by decide +kernel) (Nat.le_of_ble_eq_true rfl) rfl (bhd rfl)
theorem bk239_56 {w : am_Wd} {l0 : Nat} {l3 : Nat} {l4 : Int32} : am_run 239 56 [some (.ref l0), none, none, some (.ref l3), some (.int l4)] [] w = (am_gf w l3 6 7).bind fun v => am_run 239 61 [some (.ref l0), none, none, some (.ref l3), some (.int l4)] (v :: [.ref l3]) w := by
  refine (bu (ls'' := [some (.ref l0), none, none, some (.ref l3), some (.int l4)]) (st' := [.ref l3]) bf239_56 bf239_57 rfl rfl).trans ?_
  refine (bu (ls'' := [some (.ref l0), none, none, some (.ref l3), some (.int l4)]) (st' := [.ref l3, .ref l3]) bf239_57 bf239_58 rfl rfl).trans ?_
  exact bh bf239_58 bf239_61 rfl (fun _ _ => am_ge_rf w) rfl
theorem bk239_74 {w : am_Wd} {l0 : Nat} {l3 : Nat} {l4 : Int32} : am_run 239 74 [some (.ref l0), none, none, some (.ref l3), some (.int l4)] [] w = (am_kf w l3 6).bind fun _ => (am_x 160 [.ref l3, .int l4] w).bind fun r => bct r fun v w' => am_run 239 80 [some (.ref l0), none, none, some (.ref l3), some (.int l4)] (v.toList ++ []) w' := by
  refine (bu (ls'' := [some (.ref l0), none, none, some (.ref l3), some (.int l4)]) (st' := [.ref l3]) bf239_74 bf239_75 rfl rfl).trans ?_
  refine (bu (ls'' := [some (.ref l0), none, none, some (.ref l3), some (.int l4)]) (st' := [.int l4, .ref l3]) bf239_75 bf239_77 rfl rfl).trans ?_
  exact bkV bf239_77 bf239_80 rfl (by decide +kernel) (Nat.le_of_ble_eq_true rfl) rfl (bhd rfl)
theorem bk239_61 {w : am_Wd} {l0 : Nat} {l3 : Nat} {l4 : Int32} {s0 : Int32} {s1 : Nat} : am_run 239 61 [some (.ref l0), none, none, some (.ref l3), some (.int l4)] [.int s0, .ref s1] w = (am_pf w s1 6 7 (.int (s0 + (nI 1)))).bind fun w' => am_run 239 66 [some (.ref l0), none, none, some (.ref l3), some (.int l4)] [] w' := by
  refine (bu (ls'' := [some (.ref l0), none, none, some (.ref l3), some (.int l4)]) (st' := [.int (nI 1), .int s0, .ref s1]) bf239_61 bf239_62 rfl rfl).trans ?_
  refine (bu (ls'' := [some (.ref l0), none, none, some (.ref l3), some (.int l4)]) (st' := [.int (s0 + (nI 1)), .ref s1]) bf239_62 bf239_63 rfl rfl).trans ?_
  exact bh bf239_63 bf239_66 rfl (bge_pf) rfl
theorem bk239_80 {w : am_Wd} {l0 : Nat} {l3 : Nat} {l4 : Int32} : am_run 239 80 [some (.ref l0), none, none, some (.ref l3), some (.int l4)] [] w = (am_kf w l0 8).bind fun _ => (am_x 32 [.ref l0, .ref l3] w).bind fun r => bct r fun v w' => am_run 239 85 [none, none, none, none, some (.int l4)] (v.toList ++ []) w' := by
  refine (bu (ls'' := [none, none, none, some (.ref l3), some (.int l4)]) (st' := [.ref l0]) bf239_80 bf239_81 rfl rfl).trans ?_
  refine (bu (ls'' := [none, none, none, none, some (.int l4)]) (st' := [.ref l3, .ref l0]) bf239_81 bf239_82 rfl rfl).trans ?_
  exact bkV bf239_82 bf239_85 rfl (by decide +kernel) (Nat.le_of_ble_eq_true rfl) rfl (bhd rfl)
theorem bk239_66 {w : am_Wd} {l0 : Nat} {l3 : Nat} {l4 : Int32} : am_run 239 66 [some (.ref l0), none, none, some (.ref l3), some (.int l4)] [] w = am_run 239 74 [some (.ref l0), none, none, some (.ref l3), some (.int l4)] [] w := by
  refine (bu (ls'' := [some (.ref l0), none, none, some (.ref l3), some (.int l4)]) (st' := []) bf239_66 bf239_74 rfl rfl).trans ?_
  rfl
theorem bk239_85 {w : am_Wd} {l4 : Int32} (hb : am_ok (am_rt 1) (.int l4) = true) : am_run 239 85 [none, none, none, none, some (.int l4)] [] w = some (.inl (some (.int l4)), w) := by
  refine (bu (ls'' := [none, none, none, none, none]) (st' := [.int l4]) bf239_85 bf239_87 rfl rfl).trans ?_
  exact am_e2 bf239_87 (by unfold am_stp; exact if_pos ⟨by decide, hb⟩) (am_ge_rf w)
theorem bf240_0 : am_fetch (am_mth 240) 0 = some (.aload_n 0, 1, [], [4]) := by decide +kernel
theorem bf240_1 : am_fetch (am_mth 240) 1 = some (.iload_n 1, 1, [], [4]) := by decide +kernel
theorem bf240_2 : am_fetch (am_mth 240) 2 = some (.invokevirtual 89, 3, [0, 31, 1, 8, 343, 345, 1, 17], [1, 4]) := by decide +kernel
theorem bf240_5 : am_fetch (am_mth 240) 5 = some (.astore 4, 2, [], [1, 4]) := by decide +kernel
theorem bf240_7 : am_fetch (am_mth 240) 7 = some (.aload_n 0, 1, [], [1]) := by decide +kernel
theorem bf240_8 : am_fetch (am_mth 240) 8 = some (.aload 4, 2, [], [1]) := by decide +kernel
theorem bf240_10 : am_fetch (am_mth 240) 10 = some (.iload_n 3, 1, [], [1]) := by decide +kernel
theorem bf240_11 : am_fetch (am_mth 240) 11 = some (.invokevirtual 93, 3, [0, 225, 2, 8, 581, 583, 9, 17], [1, 3]) := by decide +kernel
theorem bf240_14 : am_fetch (am_mth 240) 14 = some (.aload 4, 2, [], [1, 3]) := by decide +kernel
theorem bf240_16 : am_fetch (am_mth 240) 16 = some (.iload_n 2, 1, [], [1, 3]) := by decide +kernel
theorem bf240_17 : am_fetch (am_mth 240) 17 = some (.invokevirtual 130, 3, [0, 79, 1, 6, 649, 650, 651, 28], [1, 2, 3]) := by decide +kernel
theorem bf240_20 : am_fetch (am_mth 240) 20 = some (.aload_n 0, 1, [], [1, 2, 3]) := by decide +kernel
theorem bf240_21 : am_fetch (am_mth 240) 21 = some (.aload 4, 2, [], [0, 1, 2, 3]) := by decide +kernel
theorem bf240_23 : am_fetch (am_mth 240) 23 = some (.invokevirtual 127, 3, [0, 32, 1, 8, 641, 643, 15, 17], [0, 1, 2, 3]) := by decide +kernel
theorem bf240_26 : am_fetch (am_mth 240) 26 = some (.aload 4, 2, [], [0, 1, 2, 3]) := by decide +kernel
theorem bf240_28 : am_fetch (am_mth 240) 28 = some (.getfield 133, 3, [1, 6, 2, 305], [0, 1, 2, 3, 4]) := by decide +kernel
theorem bf240_31 : am_fetch (am_mth 240) 31 = some (.invokevirtual 137, 3, [0, 72, 0, 4, 661, 378, 379, 30], [0, 1, 2, 3, 4]) := by decide +kernel
theorem bf240_34 : am_fetch (am_mth 240) 34 = some (.ireturn, 1, [0], [0, 1, 2, 3, 4]) := by decide +kernel
theorem bk240_0 {w : am_Wd} {l0 : Nat} {l1 : Int32} {l2 : Int32} {l3 : Int32} : am_run 240 0 [some (.ref l0), some (.int l1), some (.int l2), some (.int l3), none] [] w = (am_kf w l0 8).bind fun _ => (am_x 31 [.ref l0, .int l1] w).bind fun r => bct r fun v w' => am_run 240 5 [some (.ref l0), none, some (.int l2), some (.int l3), none] (v.toList ++ []) w' := by
  refine (bu (ls'' := [some (.ref l0), some (.int l1), some (.int l2), some (.int l3), none]) (st' := [.ref l0]) bf240_0 bf240_1 rfl rfl).trans ?_
  refine (bu (ls'' := [some (.ref l0), none, some (.int l2), some (.int l3), none]) (st' := [.int l1, .ref l0]) bf240_1 bf240_2 rfl rfl).trans ?_
  exact bkV bf240_2 bf240_5 rfl (by decide +kernel) (Nat.le_of_ble_eq_true rfl) rfl (bhd rfl)
theorem bk240_5 {w : am_Wd} {l0 : Nat} {l2 : Int32} {l3 : Int32} {s0 : Nat} : am_run 240 5 [some (.ref l0), none, some (.int l2), some (.int l3), none] [.ref s0] w = (am_kf w l0 8).bind fun _ => (am_x 225 [.ref l0, .ref s0, .int l3] w).bind fun r => bct r fun v w' => am_run 240 14 [some (.ref l0), none, some (.int l2), none, some (.ref s0)] (v.toList ++ []) w' := by
  refine (bu (ls'' := [some (.ref l0), none, some (.int l2), some (.int l3), some (.ref s0)]) (st' := []) bf240_5 bf240_7 rfl rfl).trans ?_
  refine (bu (ls'' := [some (.ref l0), none, some (.int l2), some (.int l3), some (.ref s0)]) (st' := [.ref l0]) bf240_7 bf240_8 rfl rfl).trans ?_
  refine (bu (ls'' := [some (.ref l0), none, some (.int l2), some (.int l3), some (.ref s0)]) (st' := [.ref s0, .ref l0]) bf240_8 bf240_10 rfl rfl).trans ?_
  refine (bu (ls'' := [some (.ref l0), none, some (.int l2), none, some (.ref s0)]) (st' := [.int l3, .ref s0, .ref l0]) bf240_10 bf240_11 rfl rfl).trans ?_
  exact bkV bf240_11 bf240_14 rfl (by decide +kernel) (Nat.le_of_ble_eq_true rfl) rfl (bhd rfl)
theorem bk240_14 {w : am_Wd} {l0 : Nat} {l2 : Int32} {l4 : Nat} : am_run 240 14 [some (.ref l0), none, some (.int l2), none, some (.ref l4)] [] w = (am_kf w l4 6).bind fun _ => (am_x 79 [.ref l4, .int l2] w).bind fun r => bct r fun v w' => am_run 240 20 [some (.ref l0), none, none, none, some (.ref l4)] (v.toList ++ []) w' := by
  refine (bu (ls'' := [some (.ref l0), none, some (.int l2), none, some (.ref l4)]) (st' := [.ref l4]) bf240_14 bf240_16 rfl rfl).trans ?_
  refine (bu (ls'' := [some (.ref l0), none, none, none, some (.ref l4)]) (st' := [.int l2, .ref l4]) bf240_16 bf240_17 rfl rfl).trans ?_
  exact bkV bf240_17 bf240_20 rfl (by decide +kernel) (Nat.le_of_ble_eq_true rfl) rfl (bhd rfl)
theorem bk240_20 {w : am_Wd} {l0 : Nat} {l4 : Nat} : am_run 240 20 [some (.ref l0), none, none, none, some (.ref l4)] [] w = (am_kf w l0 8).bind fun _ => (am_x 32 [.ref l0, .ref l4] w).bind fun r => bct r fun v w' => am_run 240 26 [none, none, none, none, some (.ref l4)] (v.toList ++ []) w' := by
  refine (bu (ls'' := [none, none, none, none, some (.ref l4)]) (st' := [.ref l0]) bf240_20 bf240_21 rfl rfl).trans ?_
  refine (bu (ls'' := [none, none, none, none, some (.ref l4)]) (st' := [.ref l4, .ref l0]) bf240_21 bf240_23 rfl rfl).trans ?_
  exact bkV bf240_23 bf240_26 rfl (by decide +kernel) (Nat.le_of_ble_eq_true rfl) rfl (bhd rfl)
theorem bk240_26 {w : am_Wd} {l4 : Nat} : am_run 240 26 [none, none, none, none, some (.ref l4)] [] w = (am_gf w l4 6 2).bind fun v => am_run 240 31 [none, none, none, none, none] (v :: []) w := by
  refine (bu (ls'' := [none, none, none, none, none]) (st' := [.ref l4]) bf240_26 bf240_28 rfl rfl).trans ?_
  exact bh bf240_28 bf240_31 rfl (fun _ _ => am_ge_rf w) rfl
theorem bk240_31 {w : am_Wd} {s0 : Nat} : am_run 240 31 [none, none, none, none, none] [.ref s0] w = (am_kf w s0 4).bind fun _ => (am_x 72 [.ref s0] w).bind fun r => bct r fun v w' => am_run 240 34 [none, none, none, none, none] (v.toList ++ []) w' := by
  exact bkV bf240_31 bf240_34 rfl (by decide +kernel) (Nat.le_of_ble_eq_true rfl) rfl (bhd rfl)
theorem bk240_34 {w : am_Wd} {s0 : Int32} : am_run 240 34 [none, none, none, none, none] [.int s0] w = some (.inl (some (.int s0)), w) := by
  exact am_e2 bf240_34 rfl (am_ge_rf w)
theorem bf241_0 : am_fetch (am_mth 241) 0 = some (.aload_n 0, 1, [], [3, 4]) := by decide +kernel
theorem bf241_1 : am_fetch (am_mth 241) 1 = some (.iload_n 1, 1, [], [3, 4]) := by decide +kernel
theorem bf241_2 : am_fetch (am_mth 241) 2 = some (.invokevirtual 89, 3, [0, 31, 1, 8, 343, 345, 1, 17], [1, 3, 4]) := by decide +kernel
theorem bf241_5 : am_fetch (am_mth 241) 5 = some (.astore_n 3, 1, [], [1, 3, 4]) := by decide +kernel
theorem bf241_6 : am_fetch (am_mth 241) 6 = some (.aload_n 0, 1, [], [1, 4]) := by decide +kernel
theorem bf241_7 : am_fetch (am_mth 241) 7 = some (.aload_n 3, 1, [], [1, 4]) := by decide +kernel
theorem bf241_8 : am_fetch (am_mth 241) 8 = some (.iload_n 2, 1, [], [1, 4]) := by decide +kernel
theorem bf241_9 : am_fetch (am_mth 241) 9 = some (.invokevirtual 93, 3, [0, 225, 2, 8, 581, 583, 9, 17], [1, 2, 4]) := by decide +kernel
theorem bf241_12 : am_fetch (am_mth 241) 12 = some (.aload_n 0, 1, [], [1, 2, 4]) := by decide +kernel
theorem bf241_13 : am_fetch (am_mth 241) 13 = some (.getfield 10, 3, [0, 8, 0, 63], [1, 2, 4]) := by decide +kernel
theorem bf241_16 : am_fetch (am_mth 241) 16 = some (.aload_n 3, 1, [], [1, 2, 4]) := by decide +kernel
theorem bf241_17 : am_fetch (am_mth 241) 17 = some (.invokevirtual 103, 3, [0, 17, 0, 6, 596, 597, 598, 28], [1, 2, 4]) := by decide +kernel
theorem bf241_20 : am_fetch (am_mth 241) 20 = some (.aload_n 3, 1, [], [1, 2, 4]) := by decide +kernel
theorem bf241_21 : am_fetch (am_mth 241) 21 = some (.invokevirtual 107, 3, [0, 18, 0, 6, 600, 601, 602, 28], [1, 2, 4]) := by decide +kernel
theorem bf241_24 : am_fetch (am_mth 241) 24 = some (.aload_n 0, 1, [], [1, 2, 4]) := by decide +kernel
theorem bf241_25 : am_fetch (am_mth 241) 25 = some (.invokevirtual 110, 3, [0, 33, 0, 8, 348, 350, 2, 17], [1, 2, 4]) := by decide +kernel
theorem bf241_28 : am_fetch (am_mth 241) 28 = some (.invokevirtual 142, 3, [0, 158, 3, 5, 666, 667, 668, 18], [1, 2, 4]) := by decide +kernel
theorem bf241_31 : am_fetch (am_mth 241) 31 = some (.istore 4, 2, [], [1, 2, 4]) := by decide +kernel
theorem bf241_33 : am_fetch (am_mth 241) 33 = some (.aload_n 3, 1, [], [1, 2]) := by decide +kernel
theorem bf241_34 : am_fetch (am_mth 241) 34 = some (.iload 4, 2, [], [1, 2]) := by decide +kernel
theorem bf241_36 : am_fetch (am_mth 241) 36 = some (.invokevirtual 146, 3, [0, 161, 1, 6, 671, 672, 673, 28], [1, 2]) := by decide +kernel
theorem bf241_39 : am_fetch (am_mth 241) 39 = some (.aload_n 0, 1, [], [1, 2]) := by decide +kernel
theorem bf241_40 : am_fetch (am_mth 241) 40 = some (.aload_n 3, 1, [], [0, 1, 2]) := by decide +kernel
theorem bf241_41 : am_fetch (am_mth 241) 41 = some (.invokevirtual 127, 3, [0, 32, 1, 8, 641, 643, 15, 17], [0, 1, 2, 3]) := by decide +kernel
theorem bf241_44 : am_fetch (am_mth 241) 44 = some (.iload 4, 2, [], [0, 1, 2, 3]) := by decide +kernel
theorem bf241_46 : am_fetch (am_mth 241) 46 = some (.ireturn, 1, [0], [0, 1, 2, 3, 4]) := by decide +kernel
theorem bk241_0 {w : am_Wd} {l0 : Nat} {l1 : Int32} {l2 : Int32} : am_run 241 0 [some (.ref l0), some (.int l1), some (.int l2), none, none] [] w = (am_kf w l0 8).bind fun _ => (am_x 31 [.ref l0, .int l1] w).bind fun r => bct r fun v w' => am_run 241 5 [some (.ref l0), none, some (.int l2), none, none] (v.toList ++ []) w' := by
  refine (bu (ls'' := [some (.ref l0), some (.int l1), some (.int l2), none, none]) (st' := [.ref l0]) bf241_0 bf241_1 rfl rfl).trans ?_
  refine (bu (ls'' := [some (.ref l0), none, some (.int l2), none, none]) (st' := [.int l1, .ref l0]) bf241_1 bf241_2 rfl rfl).trans ?_
  exact bkV bf241_2 bf241_5 rfl (by decide +kernel) (Nat.le_of_ble_eq_true rfl) rfl (bhd rfl)
theorem bk241_5 {w : am_Wd} {l0 : Nat} {l2 : Int32} {s0 : Nat} : am_run 241 5 [some (.ref l0), none, some (.int l2), none, none] [.ref s0] w = (am_kf w l0 8).bind fun _ => (am_x 225 [.ref l0, .ref s0, .int l2] w).bind fun r => bct r fun v w' => am_run 241 12 [some (.ref l0), none, none, some (.ref s0), none] (v.toList ++ []) w' := by
  refine (bu (ls'' := [some (.ref l0), none, some (.int l2), some (.ref s0), none]) (st' := []) bf241_5 bf241_6 rfl rfl).trans ?_
  refine (bu (ls'' := [some (.ref l0), none, some (.int l2), some (.ref s0), none]) (st' := [.ref l0]) bf241_6 bf241_7 rfl rfl).trans ?_
  refine (bu (ls'' := [some (.ref l0), none, some (.int l2), some (.ref s0), none]) (st' := [.ref s0, .ref l0]) bf241_7 bf241_8 rfl rfl).trans ?_
  refine (bu (ls'' := [some (.ref l0), none, none, some (.ref s0), none]) (st' := [.int l2, .ref s0, .ref l0]) bf241_8 bf241_9 rfl rfl).trans ?_
  exact bkV bf241_9 bf241_12 rfl (by decide +kernel) (Nat.le_of_ble_eq_true rfl) rfl (bhd rfl)
theorem bk241_12 {w : am_Wd} {l0 : Nat} {l3 : Nat} : am_run 241 12 [some (.ref l0), none, none, some (.ref l3), none] [] w = (am_gf w l0 8 0).bind fun v => am_run 241 16 [some (.ref l0), none, none, some (.ref l3), none] (v :: []) w := by
  refine (bu (ls'' := [some (.ref l0), none, none, some (.ref l3), none]) (st' := [.ref l0]) bf241_12 bf241_13 rfl rfl).trans ?_
  exact bh bf241_13 bf241_16 rfl (fun _ _ => am_ge_rf w) rfl
theorem bk241_16 {w : am_Wd} {l0 : Nat} {l3 : Nat} {s0 : Nat} : am_run 241 16 [some (.ref l0), none, none, some (.ref l3), none] [.ref s0] w = (am_kf w l3 6).bind fun _ => (am_x 17 [.ref l3] w).bind fun r => bct r fun v w' => am_run 241 20 [some (.ref l0), none, none, some (.ref l3), none] (v.toList ++ [.ref s0]) w' := by
  refine (bu (ls'' := [some (.ref l0), none, none, some (.ref l3), none]) (st' := [.ref l3, .ref s0]) bf241_16 bf241_17 rfl rfl).trans ?_
  exact bkV bf241_17 bf241_20 rfl (by decide +kernel) (Nat.le_of_ble_eq_true rfl) rfl (bhd rfl)
theorem bk241_20 {w : am_Wd} {l0 : Nat} {l3 : Nat} {s0 : Int32} {s1 : Nat} : am_run 241 20 [some (.ref l0), none, none, some (.ref l3), none] [.int s0, .ref s1] w = (am_kf w l3 6).bind fun _ => (am_x 18 [.ref l3] w).bind fun r => bct r fun v w' => am_run 241 24 [some (.ref l0), none, none, some (.ref l3), none] (v.toList ++ [.int s0, .ref s1]) w' := by
  refine (bu (ls'' := [some (.ref l0), none, none, some (.ref l3), none]) (st' := [.ref l3, .int s0, .ref s1]) bf241_20 bf241_21 rfl rfl).trans ?_
  exact bkV bf241_21 bf241_24 rfl (by decide +kernel) (Nat.le_of_ble_eq_true rfl) rfl (bhd rfl)
theorem bk241_24 {w : am_Wd} {l0 : Nat} {l3 : Nat} {s0 : Int32} {s1 : Int32} {s2 : Nat} : am_run 241 24 [some (.ref l0), none, none, some (.ref l3), none] [.int s0, .int s1, .ref s2] w = (am_kf w l0 8).bind fun _ => (am_x 33 [.ref l0] w).bind fun r => bct r fun v w' => am_run 241 28 [some (.ref l0), none, none, some (.ref l3), none] (v.toList ++ [.int s0, .int s1, .ref s2]) w' := by
  refine (bu (ls'' := [some (.ref l0), none, none, some (.ref l3), none]) (st' := [.ref l0, .int s0, .int s1, .ref s2]) bf241_24 bf241_25 rfl rfl).trans ?_
  exact bkV bf241_25 bf241_28 rfl (by decide +kernel) (Nat.le_of_ble_eq_true rfl) rfl (bhd rfl)
theorem bk241_28 {w : am_Wd} {l0 : Nat} {l3 : Nat} {s0 : Int32} {s1 : Int32} {s2 : Int32} {s3 : Nat} : am_run 241 28 [some (.ref l0), none, none, some (.ref l3), none] [.int s0, .int s1, .int s2, .ref s3] w = (am_kf w s3 5).bind fun _ => (am_x 158 [.ref s3, .int s2, .int s1, .int s0] w).bind fun r => bct r fun v w' => am_run 241 31 [some (.ref l0), none, none, some (.ref l3), none] (v.toList ++ []) w' := by
  exact bkV bf241_28 bf241_31 rfl (by decide +kernel) (Nat.le_of_ble_eq_true rfl) rfl (bhd rfl)
theorem bk241_31 {w : am_Wd} {l0 : Nat} {l3 : Nat} {s0 : Int32} : am_run 241 31 [some (.ref l0), none, none, some (.ref l3), none] [.int s0] w = (am_kf w l3 6).bind fun _ => (am_x 161 [.ref l3, .int s0] w).bind fun r => bct r fun v w' => am_run 241 39 [some (.ref l0), none, none, some (.ref l3), some (.int s0)] (v.toList ++ []) w' := by
  refine (bu (ls'' := [some (.ref l0), none, none, some (.ref l3), some (.int s0)]) (st' := []) bf241_31 bf241_33 rfl rfl).trans ?_
  refine (bu (ls'' := [some (.ref l0), none, none, some (.ref l3), some (.int s0)]) (st' := [.ref l3]) bf241_33 bf241_34 rfl rfl).trans ?_
  refine (bu (ls'' := [some (.ref l0), none, none, some (.ref l3), some (.int s0)]) (st' := [.int s0, .ref l3]) bf241_34 bf241_36 rfl rfl).trans ?_
  exact bkV bf241_36 bf241_39 rfl (by decide +kernel) (Nat.le_of_ble_eq_true rfl) rfl (bhd rfl)
theorem bk241_39 {w : am_Wd} {l0 : Nat} {l3 : Nat} {l4 : Int32} : am_run 241 39 [some (.ref l0), none, none, some (.ref l3), some (.int l4)] [] w = (am_kf w l0 8).bind fun _ => (am_x 32 [.ref l0, .ref l3] w).bind fun r => bct r fun v w' => am_run 241 44 [none, none, none, none, some (.int l4)] (v.toList ++ []) w' := by
  refine (bu (ls'' := [none, none, none, some (.ref l3), some (.int l4)]) (st' := [.ref l0]) bf241_39 bf241_40 rfl rfl).trans ?_
  refine (bu (ls'' := [none, none, none, none, some (.int l4)]) (st' := [.ref l3, .ref l0]) bf241_40 bf241_41 rfl rfl).trans ?_
  exact bkV bf241_41 bf241_44 rfl (by decide +kernel) (Nat.le_of_ble_eq_true rfl) rfl (bhd rfl)
theorem bk241_44 {w : am_Wd} {l4 : Int32} : am_run 241 44 [none, none, none, none, some (.int l4)] [] w = some (.inl (some (.int l4)), w) := by
  refine (bu (ls'' := [none, none, none, none, none]) (st' := [.int l4]) bf241_44 bf241_46 rfl rfl).trans ?_
  exact am_e2 bf241_46 rfl (am_ge_rf w)
theorem bf242_0 : am_fetch (am_mth 242) 0 = some (.aload_n 0, 1, [], [3, 4, 5, 6]) := by decide +kernel
theorem bf242_1 : am_fetch (am_mth 242) 1 = some (.iload_n 1, 1, [], [3, 4, 5, 6]) := by decide +kernel
theorem bf242_2 : am_fetch (am_mth 242) 2 = some (.invokevirtual 89, 3, [0, 31, 1, 8, 343, 345, 1, 17], [3, 4, 5, 6]) := by decide +kernel
theorem bf242_5 : am_fetch (am_mth 242) 5 = some (.astore_n 3, 1, [], [3, 4, 5, 6]) := by decide +kernel
theorem bf242_6 : am_fetch (am_mth 242) 6 = some (.aload_n 0, 1, [], [4, 5, 6]) := by decide +kernel
theorem bf242_7 : am_fetch (am_mth 242) 7 = some (.aload_n 3, 1, [], [4, 5, 6]) := by decide +kernel
theorem bf242_8 : am_fetch (am_mth 242) 8 = some (.iload_n 2, 1, [], [4, 5, 6]) := by decide +kernel
theorem bf242_9 : am_fetch (am_mth 242) 9 = some (.invokevirtual 93, 3, [0, 225, 2, 8, 581, 583, 9, 17], [2, 4, 5, 6]) := by decide +kernel
theorem bf242_12 : am_fetch (am_mth 242) 12 = some (.iconst 0, 1, [], [2, 4, 5, 6]) := by decide +kernel
theorem bf242_13 : am_fetch (am_mth 242) 13 = some (.istore 4, 2, [], [2, 4, 5, 6]) := by decide +kernel
theorem bf242_15 : am_fetch (am_mth 242) 15 = some (.iconst 0, 1, [], [2, 5, 6]) := by decide +kernel
theorem bf242_16 : am_fetch (am_mth 242) 16 = some (.istore 5, 2, [], [2, 5, 6]) := by decide +kernel
theorem bf242_18 : am_fetch (am_mth 242) 18 = some (.iload 5, 2, [], [2, 6]) := by decide +kernel
theorem bf242_20 : am_fetch (am_mth 242) 20 = some (.aload_n 0, 1, [], [2, 6]) := by decide +kernel
theorem bf242_21 : am_fetch (am_mth 242) 21 = some (.getfield 18, 3, [0, 8, 1, 64], [2, 6]) := by decide +kernel
theorem bf242_24 : am_fetch (am_mth 242) 24 = some (.arraylength, 1, [], [2, 6]) := by decide +kernel
theorem bf242_25 : am_fetch (am_mth 242) 25 = some (.if_icmp .ge 47, 3, [], [2, 6]) := by decide +kernel
theorem bf242_28 : am_fetch (am_mth 242) 28 = some (.aload_n 0, 1, [], [2, 6]) := by decide +kernel
theorem bf242_29 : am_fetch (am_mth 242) 29 = some (.getfield 18, 3, [0, 8, 1, 64], [2, 6]) := by decide +kernel
theorem bf242_32 : am_fetch (am_mth 242) 32 = some (.iload 5, 2, [], [2, 6]) := by decide +kernel
theorem bf242_34 : am_fetch (am_mth 242) 34 = some (.aaload, 1, [], [2, 6]) := by decide +kernel
theorem bf242_35 : am_fetch (am_mth 242) 35 = some (.astore 6, 2, [], [2, 6]) := by decide +kernel
theorem bf242_37 : am_fetch (am_mth 242) 37 = some (.iload 5, 2, [], [2]) := by decide +kernel
theorem bf242_39 : am_fetch (am_mth 242) 39 = some (.iload_n 1, 1, [], [2]) := by decide +kernel
theorem bf242_40 : am_fetch (am_mth 242) 40 = some (.if_icmp .eq 26, 3, [], [2]) := by decide +kernel
theorem bf242_43 : am_fetch (am_mth 242) 43 = some (.aload 6, 2, [], [2]) := by decide +kernel
theorem bf242_45 : am_fetch (am_mth 242) 45 = some (.ifnull 21, 3, [], [2]) := by decide +kernel
theorem bf242_48 : am_fetch (am_mth 242) 48 = some (.aload_n 3, 1, [], [2]) := by decide +kernel
theorem bf242_49 : am_fetch (am_mth 242) 49 = some (.invokevirtual 103, 3, [0, 17, 0, 6, 596, 597, 598, 28], [2]) := by decide +kernel
theorem bf242_52 : am_fetch (am_mth 242) 52 = some (.aload 6, 2, [], [2]) := by decide +kernel
theorem bf242_54 : am_fetch (am_mth 242) 54 = some (.invokevirtual 103, 3, [0, 17, 0, 6, 596, 597, 598, 28], [2, 6]) := by decide +kernel
theorem bf242_57 : am_fetch (am_mth 242) 57 = some (.invokestatic 149, 3, [0, 16, 2, 689, 690, 23], [2, 6]) := by decide +kernel
theorem bf242_60 : am_fetch (am_mth 242) 60 = some (.ifCond .eq 6, 3, [], [2, 6]) := by decide +kernel
theorem bf242_63 : am_fetch (am_mth 242) 63 = some (.iinc 4 1, 3, [], [2, 6]) := by decide +kernel
theorem bf242_66 : am_fetch (am_mth 242) 66 = some (.iinc 5 1, 3, [], [2, 6]) := by decide +kernel
theorem bf242_69 : am_fetch (am_mth 242) 69 = some (.goto (-51), 3, [], [2, 6]) := by decide +kernel
theorem bf242_72 : am_fetch (am_mth 242) 72 = some (.aload_n 0, 1, [], [1, 2, 5, 6]) := by decide +kernel
theorem bf242_73 : am_fetch (am_mth 242) 73 = some (.aload_n 3, 1, [], [0, 1, 2, 5, 6]) := by decide +kernel
theorem bf242_74 : am_fetch (am_mth 242) 74 = some (.invokevirtual 127, 3, [0, 32, 1, 8, 641, 643, 15, 17], [0, 1, 2, 3, 5, 6]) := by decide +kernel
theorem bf242_77 : am_fetch (am_mth 242) 77 = some (.iload 4, 2, [], [0, 1, 2, 3, 5, 6]) := by decide +kernel
theorem bf242_79 : am_fetch (am_mth 242) 79 = some (.ireturn, 1, [0], [0, 1, 2, 3, 4, 5, 6]) := by decide +kernel
theorem bk242_0 {w : am_Wd} {l0 : Nat} {l1 : Int32} {l2 : Int32} : am_run 242 0 [some (.ref l0), some (.int l1), some (.int l2), none, none, none, none] [] w = (am_kf w l0 8).bind fun _ => (am_x 31 [.ref l0, .int l1] w).bind fun r => bct r fun v w' => am_run 242 5 [some (.ref l0), some (.int l1), some (.int l2), none, none, none, none] (v.toList ++ []) w' := by
  refine (bu (ls'' := [some (.ref l0), some (.int l1), some (.int l2), none, none, none, none]) (st' := [.ref l0]) bf242_0 bf242_1 rfl rfl).trans ?_
  refine (bu (ls'' := [some (.ref l0), some (.int l1), some (.int l2), none, none, none, none]) (st' := [.int l1, .ref l0]) bf242_1 bf242_2 rfl rfl).trans ?_
  exact bkV bf242_2 bf242_5 rfl (by decide +kernel) (Nat.le_of_ble_eq_true rfl) rfl (bhd rfl)
theorem bk242_5 {w : am_Wd} {l0 : Nat} {l1 : Int32} {l2 : Int32} {s0 : Nat} : am_run 242 5 [some (.ref l0), some (.int l1), some (.int l2), none, none, none, none] [.ref s0] w = (am_kf w l0 8).bind fun _ => (am_x 225 [.ref l0, .ref s0, .int l2] w).bind fun r => bct r fun v w' => am_run 242 12 [some (.ref l0), some (.int l1), none, some (.ref s0), none, none, none] (v.toList ++ []) w' := by
  refine (bu (ls'' := [some (.ref l0), some (.int l1), some (.int l2), some (.ref s0), none, none, none]) (st' := []) bf242_5 bf242_6 rfl rfl).trans ?_
  refine (bu (ls'' := [some (.ref l0), some (.int l1), some (.int l2), some (.ref s0), none, none, none]) (st' := [.ref l0]) bf242_6 bf242_7 rfl rfl).trans ?_
  refine (bu (ls'' := [some (.ref l0), some (.int l1), some (.int l2), some (.ref s0), none, none, none]) (st' := [.ref s0, .ref l0]) bf242_7 bf242_8 rfl rfl).trans ?_
  refine (bu (ls'' := [some (.ref l0), some (.int l1), none, some (.ref s0), none, none, none]) (st' := [.int l2, .ref s0, .ref l0]) bf242_8 bf242_9 rfl rfl).trans ?_
  exact bkV bf242_9 bf242_12 rfl (by decide +kernel) (Nat.le_of_ble_eq_true rfl) rfl (bhd rfl)
theorem bk242_12 {w : am_Wd} {l0 : Nat} {l1 : Int32} {l3 : Nat} : am_run 242 12 [some (.ref l0), some (.int l1), none, some (.ref l3), none, none, none] [] w = am_run 242 18 [some (.ref l0), some (.int l1), none, some (.ref l3), some (.int (nI 0)), some (.int (nI 0)), none] [] w := by
  refine (bu (ls'' := [some (.ref l0), some (.int l1), none, some (.ref l3), none, none, none]) (st' := [.int (nI 0)]) bf242_12 bf242_13 rfl rfl).trans ?_
  refine (bu (ls'' := [some (.ref l0), some (.int l1), none, some (.ref l3), some (.int (nI 0)), none, none]) (st' := []) bf242_13 bf242_15 rfl rfl).trans ?_
  refine (bu (ls'' := [some (.ref l0), some (.int l1), none, some (.ref l3), some (.int (nI 0)), none, none]) (st' := [.int (nI 0)]) bf242_15 bf242_16 rfl rfl).trans ?_
  refine (bu (ls'' := [some (.ref l0), some (.int l1), none, some (.ref l3), some (.int (nI 0)), some (.int (nI 0)), none]) (st' := []) bf242_16 bf242_18 rfl rfl).trans ?_
  rfl
theorem bk242_18 {w : am_Wd} {l0 : Nat} {l1 : Int32} {l3 : Nat} {l4 : Int32} {l5 : Int32} : am_run 242 18 [some (.ref l0), some (.int l1), none, some (.ref l3), some (.int l4), some (.int l5), none] [] w = (am_gf w l0 8 1).bind fun v => am_run 242 24 [some (.ref l0), some (.int l1), none, some (.ref l3), some (.int l4), some (.int l5), none] (v :: [.int l5]) w := by
  refine (bu (ls'' := [some (.ref l0), some (.int l1), none, some (.ref l3), some (.int l4), some (.int l5), none]) (st' := [.int l5]) bf242_18 bf242_20 rfl rfl).trans ?_
  refine (bu (ls'' := [some (.ref l0), some (.int l1), none, some (.ref l3), some (.int l4), some (.int l5), none]) (st' := [.ref l0, .int l5]) bf242_20 bf242_21 rfl rfl).trans ?_
  exact bh bf242_21 bf242_24 rfl (fun _ _ => am_ge_rf w) rfl
theorem bk242_24 {w : am_Wd} {l0 : Nat} {l1 : Int32} {l3 : Nat} {l4 : Int32} {l5 : Int32} {s0 : Nat} {s1 : Int32} : am_run 242 24 [some (.ref l0), some (.int l1), none, some (.ref l3), some (.int l4), some (.int l5), none] [.ref s0, .int s1] w = (am_len w s0).bind fun v => am_run 242 25 [some (.ref l0), some (.int l1), none, some (.ref l3), some (.int l4), some (.int l5), none] (.int (nI v) :: [.int s1]) w := by
  exact bh bf242_24 bf242_25 rfl (fun _ _ => am_ge_rf w) rfl
theorem bk242_25 {w : am_Wd} {l0 : Nat} {l1 : Int32} {l3 : Nat} {l4 : Int32} {l5 : Int32} {s0 : Int32} {s1 : Int32} : am_run 242 25 [some (.ref l0), some (.int l1), none, some (.ref l3), some (.int l4), some (.int l5), none] [.int s0, .int s1] w = if s0 ≤ s1 then am_run 242 72 [some (.ref l0), none, none, some (.ref l3), some (.int l4), none, none] [] w else am_run 242 28 [some (.ref l0), some (.int l1), none, some (.ref l3), some (.int l4), some (.int l5), none] [] w := by
  exact bic bf242_25 rfl bf242_72 bf242_28 rfl rfl rfl
theorem bk242_72 {w : am_Wd} {l0 : Nat} {l3 : Nat} {l4 : Int32} : am_run 242 72 [some (.ref l0), none, none, some (.ref l3), some (.int l4), none, none] [] w = (am_kf w l0 8).bind fun _ => (am_x 32 [.ref l0, .ref l3] w).bind fun r => bct r fun v w' => am_run 242 77 [none, none, none, none, some (.int l4), none, none] (v.toList ++ []) w' := by
  refine (bu (ls'' := [none, none, none, some (.ref l3), some (.int l4), none, none]) (st' := [.ref l0]) bf242_72 bf242_73 rfl rfl).trans ?_
  refine (bu (ls'' := [none, none, none, none, some (.int l4), none, none]) (st' := [.ref l3, .ref l0]) bf242_73 bf242_74 rfl rfl).trans ?_
  exact bkV bf242_74 bf242_77 rfl (by decide +kernel) (Nat.le_of_ble_eq_true rfl) rfl (bhd rfl)
theorem bk242_28 {w : am_Wd} {l0 : Nat} {l1 : Int32} {l3 : Nat} {l4 : Int32} {l5 : Int32} : am_run 242 28 [some (.ref l0), some (.int l1), none, some (.ref l3), some (.int l4), some (.int l5), none] [] w = (am_gf w l0 8 1).bind fun v => am_run 242 32 [some (.ref l0), some (.int l1), none, some (.ref l3), some (.int l4), some (.int l5), none] (v :: []) w := by
  refine (bu (ls'' := [some (.ref l0), some (.int l1), none, some (.ref l3), some (.int l4), some (.int l5), none]) (st' := [.ref l0]) bf242_28 bf242_29 rfl rfl).trans ?_
  exact bh bf242_29 bf242_32 rfl (fun _ _ => am_ge_rf w) rfl
theorem bk242_77 {w : am_Wd} {l4 : Int32} : am_run 242 77 [none, none, none, none, some (.int l4), none, none] [] w = some (.inl (some (.int l4)), w) := by
  refine (bu (ls'' := [none, none, none, none, none, none, none]) (st' := [.int l4]) bf242_77 bf242_79 rfl rfl).trans ?_
  exact am_e2 bf242_79 rfl (am_ge_rf w)
theorem bk242_32 {w : am_Wd} {l0 : Nat} {l1 : Int32} {l3 : Nat} {l4 : Int32} {l5 : Int32} {s0 : Nat} : am_run 242 32 [some (.ref l0), some (.int l1), none, some (.ref l3), some (.int l4), some (.int l5), none] [.ref s0] w = (am_rq w s0 l5).bind fun v => am_run 242 35 [some (.ref l0), some (.int l1), none, some (.ref l3), some (.int l4), some (.int l5), none] (v :: []) w := by
  refine (bu (ls'' := [some (.ref l0), some (.int l1), none, some (.ref l3), some (.int l4), some (.int l5), none]) (st' := [.int l5, .ref s0]) bf242_32 bf242_34 rfl rfl).trans ?_
  exact bh bf242_34 bf242_35 rfl (fun _ _ => am_ge_rf w) rfl
theorem bk242_35 {w : am_Wd} {l0 : Nat} {l1 : Int32} {l3 : Nat} {l4 : Int32} {l5 : Int32} {s0 : Nat} : am_run 242 35 [some (.ref l0), some (.int l1), none, some (.ref l3), some (.int l4), some (.int l5), none] [.ref s0] w = if l5 = l1 then am_run 242 66 [some (.ref l0), some (.int l1), none, some (.ref l3), some (.int l4), some (.int l5), none] [] w else am_run 242 43 [some (.ref l0), some (.int l1), none, some (.ref l3), some (.int l4), some (.int l5), some (.ref s0)] [] w := by
  refine (bu (ls'' := [some (.ref l0), some (.int l1), none, some (.ref l3), some (.int l4), some (.int l5), some (.ref s0)]) (st' := []) bf242_35 bf242_37 rfl rfl).trans ?_
  refine (bu (ls'' := [some (.ref l0), some (.int l1), none, some (.ref l3), some (.int l4), some (.int l5), some (.ref s0)]) (st' := [.int l5]) bf242_37 bf242_39 rfl rfl).trans ?_
  refine (bu (ls'' := [some (.ref l0), some (.int l1), none, some (.ref l3), some (.int l4), some (.int l5), some (.ref s0)]) (st' := [.int l1, .int l5]) bf242_39 bf242_40 rfl rfl).trans ?_
  exact bic bf242_40 rfl bf242_66 bf242_43 rfl rfl rfl
theorem bk242_35a {w : am_Wd} {l0 : Nat} {l1 : Int32} {l3 : Nat} {l4 : Int32} {l5 : Int32} : am_run 242 35 [some (.ref l0), some (.int l1), none, some (.ref l3), some (.int l4), some (.int l5), none] [.null] w = if l5 = l1 then am_run 242 66 [some (.ref l0), some (.int l1), none, some (.ref l3), some (.int l4), some (.int l5), none] [] w else am_run 242 43 [some (.ref l0), some (.int l1), none, some (.ref l3), some (.int l4), some (.int l5), some (.null)] [] w := by
  refine (bu (ls'' := [some (.ref l0), some (.int l1), none, some (.ref l3), some (.int l4), some (.int l5), some (.null)]) (st' := []) bf242_35 bf242_37 rfl rfl).trans ?_
  refine (bu (ls'' := [some (.ref l0), some (.int l1), none, some (.ref l3), some (.int l4), some (.int l5), some (.null)]) (st' := [.int l5]) bf242_37 bf242_39 rfl rfl).trans ?_
  refine (bu (ls'' := [some (.ref l0), some (.int l1), none, some (.ref l3), some (.int l4), some (.int l5), some (.null)]) (st' := [.int l1, .int l5]) bf242_39 bf242_40 rfl rfl).trans ?_
  exact bic bf242_40 rfl bf242_66 bf242_43 rfl rfl rfl
