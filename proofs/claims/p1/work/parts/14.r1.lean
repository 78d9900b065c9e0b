/-! RULES, on (laid by wip/gen/rules.py). Mine. -/
theorem bf0_0 : am_fetch (am_mth 0) 0 = some (.aload_n 0, 1, [], []) := by decide +kernel
theorem bf0_1 : am_fetch (am_mth 0) 1 = some (.invokespecial 3, 3, [1, 595, 85, 86], []) := by decide +kernel
theorem bf0_4 : am_fetch (am_mth 0) 4 = some (.aload_n 0, 1, [], []) := by decide +kernel
theorem bf0_5 : am_fetch (am_mth 0) 5 = some (.iconst 4, 1, [], [0]) := by decide +kernel
theorem bf0_6 : am_fetch (am_mth 0) 6 = some (.newarray .long, 2, [1, 590], [0]) := by decide +kernel
theorem bf0_8 : am_fetch (am_mth 0) 8 = some (.putfield 9, 3, [0, 4, 0, 596], [0]) := by decide +kernel
theorem bf0_11 : am_fetch (am_mth 0) 11 = some (.return_, 1, [], [0]) := by decide +kernel
theorem bk0_0 {w : am_Wd} {l0 : Nat} : am_run 0 0 [some (.ref l0)] [] w = (am_na w 1 (nI 4)).bind fun w' => am_run 0 8 [none] (.ref w.2.1 :: [.ref l0]) w' := by
  refine (bu (ls'' := [some (.ref l0)]) (st' := [.ref l0]) bf0_0 bf0_1 rfl rfl).trans ?_
  refine (bu (ls'' := [some (.ref l0)]) (st' := []) bf0_1 bf0_4 rfl rfl).trans ?_
  refine (bu (ls'' := [none]) (st' := [.ref l0]) bf0_4 bf0_5 rfl rfl).trans ?_
  refine (bu (ls'' := [none]) (st' := [.int (nI 4), .ref l0]) bf0_5 bf0_6 rfl rfl).trans ?_
  exact bh bf0_6 bf0_8 rfl (bge_na) rfl
theorem bk0_8 {w : am_Wd} {s0 : Nat} {s1 : Nat} : am_run 0 8 [none] [.ref s0, .ref s1] w = (am_pf w s1 4 0 (.ref s0)).bind fun w' => am_run 0 11 [none] [] w' := by
  exact bh bf0_8 bf0_11 rfl (bge_pf) rfl
theorem bk0_11 {w : am_Wd}  : am_run 0 11 [none] [] w = some (.inl none, w) := by
  exact am_e2 bf0_11 rfl (am_ge_rf w)
theorem bf1_0 : am_fetch (am_mth 1) 0 = some (.iconst 0, 1, [], [1]) := by decide +kernel
theorem bf1_1 : am_fetch (am_mth 1) 1 = some (.istore_n 1, 1, [], [1]) := by decide +kernel
theorem bf1_2 : am_fetch (am_mth 1) 2 = some (.iload_n 1, 1, [], []) := by decide +kernel
theorem bf1_3 : am_fetch (am_mth 1) 3 = some (.iconst 4, 1, [], []) := by decide +kernel
theorem bf1_4 : am_fetch (am_mth 1) 4 = some (.if_icmp .ge 18, 3, [], []) := by decide +kernel
theorem bf1_7 : am_fetch (am_mth 1) 7 = some (.aload_n 0, 1, [], []) := by decide +kernel
theorem bf1_8 : am_fetch (am_mth 1) 8 = some (.getfield 9, 3, [0, 4, 0, 596], []) := by decide +kernel
theorem bf1_11 : am_fetch (am_mth 1) 11 = some (.iload_n 1, 1, [], []) := by decide +kernel
theorem bf1_12 : am_fetch (am_mth 1) 12 = some (.ldc2_w 17, 3, [0, 68719476735, 609], []) := by decide +kernel
theorem bf1_15 : am_fetch (am_mth 1) 15 = some (.lastore, 1, [], []) := by decide +kernel
theorem bf1_16 : am_fetch (am_mth 1) 16 = some (.iinc 1 1, 3, [], []) := by decide +kernel
theorem bf1_19 : am_fetch (am_mth 1) 19 = some (.goto (-17), 3, [], []) := by decide +kernel
theorem bf1_22 : am_fetch (am_mth 1) 22 = some (.return_, 1, [], [0, 1]) := by decide +kernel
theorem bk1_0 {w : am_Wd} {l0 : Nat} : am_run 1 0 [some (.ref l0), none] [] w = am_run 1 2 [some (.ref l0), some (.int (nI 0))] [] w := by
  refine (bu (ls'' := [some (.ref l0), none]) (st' := [.int (nI 0)]) bf1_0 bf1_1 rfl rfl).trans ?_
  refine (bu (ls'' := [some (.ref l0), some (.int (nI 0))]) (st' := []) bf1_1 bf1_2 rfl rfl).trans ?_
  rfl
theorem bk1_2 {w : am_Wd} {l0 : Nat} {l1 : Int32} : am_run 1 2 [some (.ref l0), some (.int l1)] [] w = if (nI 4) ≤ l1 then am_run 1 22 [none, none] [] w else am_run 1 7 [some (.ref l0), some (.int l1)] [] w := by
  refine (bu (ls'' := [some (.ref l0), some (.int l1)]) (st' := [.int l1]) bf1_2 bf1_3 rfl rfl).trans ?_
  refine (bu (ls'' := [some (.ref l0), some (.int l1)]) (st' := [.int (nI 4), .int l1]) bf1_3 bf1_4 rfl rfl).trans ?_
  exact bic bf1_4 rfl bf1_22 bf1_7 rfl rfl rfl
theorem bk1_22 {w : am_Wd}  : am_run 1 22 [none, none] [] w = some (.inl none, w) := by
  exact am_e2 bf1_22 rfl (am_ge_rf w)
theorem bk1_7 {w : am_Wd} {l0 : Nat} {l1 : Int32} : am_run 1 7 [some (.ref l0), some (.int l1)] [] w = (am_gf w l0 4 0).bind fun v => am_run 1 11 [some (.ref l0), some (.int l1)] (v :: []) w := by
  refine (bu (ls'' := [some (.ref l0), some (.int l1)]) (st' := [.ref l0]) bf1_7 bf1_8 rfl rfl).trans ?_
  exact bh bf1_8 bf1_11 rfl (fun _ _ => am_ge_rf w) rfl
theorem bk1_11 {w : am_Wd} {l0 : Nat} {l1 : Int32} {s0 : Nat} : am_run 1 11 [some (.ref l0), some (.int l1)] [.ref s0] w = (am_wl w s0 l1 (lN 68719476735)).bind fun w' => am_run 1 16 [some (.ref l0), some (.int l1)] [] w' := by
  refine (bu (ls'' := [some (.ref l0), some (.int l1)]) (st' := [.int l1, .ref s0]) bf1_11 bf1_12 rfl rfl).trans ?_
  refine (bu (ls'' := [some (.ref l0), some (.int l1)]) (st' := [.long (lN 68719476735), .int l1, .ref s0]) bf1_12 bf1_15 rfl rfl).trans ?_
  exact bh bf1_15 bf1_16 rfl (bge_wl) rfl
theorem bk1_16 {w : am_Wd} {l0 : Nat} {l1 : Int32} : am_run 1 16 [some (.ref l0), some (.int l1)] [] w = am_run 1 2 [some (.ref l0), some (.int (l1 + (nI 1)))] [] w := by
  refine (bu (ls'' := [some (.ref l0), some (.int (l1 + (nI 1)))]) (st' := []) bf1_16 bf1_19 rfl rfl).trans ?_
  refine (bu (ls'' := [some (.ref l0), some (.int (l1 + (nI 1)))]) (st' := []) bf1_19 bf1_2 rfl rfl).trans ?_
  rfl
theorem bf2_0 : am_fetch (am_mth 2) 0 = some (.iconst 0, 1, [], [2]) := by decide +kernel
theorem bf2_1 : am_fetch (am_mth 2) 1 = some (.istore_n 2, 1, [], [2]) := by decide +kernel
theorem bf2_2 : am_fetch (am_mth 2) 2 = some (.iload_n 2, 1, [], []) := by decide +kernel
theorem bf2_3 : am_fetch (am_mth 2) 3 = some (.iconst 4, 1, [], []) := by decide +kernel
theorem bf2_4 : am_fetch (am_mth 2) 4 = some (.if_icmp .ge 31, 3, [], []) := by decide +kernel
theorem bf2_7 : am_fetch (am_mth 2) 7 = some (.aload_n 0, 1, [], []) := by decide +kernel
theorem bf2_8 : am_fetch (am_mth 2) 8 = some (.getfield 9, 3, [0, 4, 0, 596], []) := by decide +kernel
theorem bf2_11 : am_fetch (am_mth 2) 11 = some (.iload_n 2, 1, [], []) := by decide +kernel
theorem bf2_12 : am_fetch (am_mth 2) 12 = some (.iload_n 2, 1, [], []) := by decide +kernel
theorem bf2_13 : am_fetch (am_mth 2) 13 = some (.iload_n 1, 1, [], []) := by decide +kernel
theorem bf2_14 : am_fetch (am_mth 2) 14 = some (.iconst 4, 1, [], []) := by decide +kernel
theorem bf2_15 : am_fetch (am_mth 2) 15 = some (.irem, 1, [], []) := by decide +kernel
theorem bf2_16 : am_fetch (am_mth 2) 16 = some (.if_icmp .ne 11, 3, [], []) := by decide +kernel
theorem bf2_19 : am_fetch (am_mth 2) 19 = some (.lconst 1, 1, [], []) := by decide +kernel
theorem bf2_20 : am_fetch (am_mth 2) 20 = some (.iload_n 1, 1, [], []) := by decide +kernel
theorem bf2_21 : am_fetch (am_mth 2) 21 = some (.iconst 4, 1, [], []) := by decide +kernel
theorem bf2_22 : am_fetch (am_mth 2) 22 = some (.idiv, 1, [], []) := by decide +kernel
theorem bf2_23 : am_fetch (am_mth 2) 23 = some (.lshl, 1, [], []) := by decide +kernel
theorem bf2_24 : am_fetch (am_mth 2) 24 = some (.goto 4, 3, [], []) := by decide +kernel
theorem bf2_27 : am_fetch (am_mth 2) 27 = some (.lconst 0, 1, [], []) := by decide +kernel
theorem bf2_28 : am_fetch (am_mth 2) 28 = some (.lastore, 1, [], []) := by decide +kernel
theorem bf2_29 : am_fetch (am_mth 2) 29 = some (.iinc 2 1, 3, [], []) := by decide +kernel
theorem bf2_32 : am_fetch (am_mth 2) 32 = some (.goto (-30), 3, [], []) := by decide +kernel
theorem bf2_35 : am_fetch (am_mth 2) 35 = some (.return_, 1, [], [0, 1, 2]) := by decide +kernel
theorem bk2_0 {w : am_Wd} {l0 : Nat} {l1 : Int32} : am_run 2 0 [some (.ref l0), some (.int l1), none] [] w = am_run 2 2 [some (.ref l0), some (.int l1), some (.int (nI 0))] [] w := by
  refine (bu (ls'' := [some (.ref l0), some (.int l1), none]) (st' := [.int (nI 0)]) bf2_0 bf2_1 rfl rfl).trans ?_
  refine (bu (ls'' := [some (.ref l0), some (.int l1), some (.int (nI 0))]) (st' := []) bf2_1 bf2_2 rfl rfl).trans ?_
  rfl
theorem bk2_2 {w : am_Wd} {l0 : Nat} {l1 : Int32} {l2 : Int32} : am_run 2 2 [some (.ref l0), some (.int l1), some (.int l2)] [] w = if (nI 4) ≤ l2 then am_run 2 35 [none, none, none] [] w else am_run 2 7 [some (.ref l0), some (.int l1), some (.int l2)] [] w := by
  refine (bu (ls'' := [some (.ref l0), some (.int l1), some (.int l2)]) (st' := [.int l2]) bf2_2 bf2_3 rfl rfl).trans ?_
  refine (bu (ls'' := [some (.ref l0), some (.int l1), some (.int l2)]) (st' := [.int (nI 4), .int l2]) bf2_3 bf2_4 rfl rfl).trans ?_
  exact bic bf2_4 rfl bf2_35 bf2_7 rfl rfl rfl
theorem bk2_35 {w : am_Wd}  : am_run 2 35 [none, none, none] [] w = some (.inl none, w) := by
  exact am_e2 bf2_35 rfl (am_ge_rf w)
theorem bk2_7 {w : am_Wd} {l0 : Nat} {l1 : Int32} {l2 : Int32} : am_run 2 7 [some (.ref l0), some (.int l1), some (.int l2)] [] w = (am_gf w l0 4 0).bind fun v => am_run 2 11 [some (.ref l0), some (.int l1), some (.int l2)] (v :: []) w := by
  refine (bu (ls'' := [some (.ref l0), some (.int l1), some (.int l2)]) (st' := [.ref l0]) bf2_7 bf2_8 rfl rfl).trans ?_
  exact bh bf2_8 bf2_11 rfl (fun _ _ => am_ge_rf w) rfl
theorem bk2_11 {w : am_Wd} {l0 : Nat} {l1 : Int32} {l2 : Int32} {s0 : Nat} : am_run 2 11 [some (.ref l0), some (.int l1), some (.int l2)] [.ref s0] w = if ¬ l2 = (bj_irem l1 (nI 4)) then am_run 2 27 [some (.ref l0), some (.int l1), some (.int l2)] [.int l2, .ref s0] w else am_run 2 19 [some (.ref l0), some (.int l1), some (.int l2)] [.int l2, .ref s0] w := by
  refine (bu (ls'' := [some (.ref l0), some (.int l1), some (.int l2)]) (st' := [.int l2, .ref s0]) bf2_11 bf2_12 rfl rfl).trans ?_
  refine (bu (ls'' := [some (.ref l0), some (.int l1), some (.int l2)]) (st' := [.int l2, .int l2, .ref s0]) bf2_12 bf2_13 rfl rfl).trans ?_
  refine (bu (ls'' := [some (.ref l0), some (.int l1), some (.int l2)]) (st' := [.int l1, .int l2, .int l2, .ref s0]) bf2_13 bf2_14 rfl rfl).trans ?_
  refine (bu (ls'' := [some (.ref l0), some (.int l1), some (.int l2)]) (st' := [.int (nI 4), .int l1, .int l2, .int l2, .ref s0]) bf2_14 bf2_15 rfl rfl).trans ?_
  refine (bu (ls'' := [some (.ref l0), some (.int l1), some (.int l2)]) (st' := [.int (bj_irem l1 (nI 4)), .int l2, .int l2, .ref s0]) bf2_15 bf2_16 rfl rfl).trans ?_
  exact bic bf2_16 rfl bf2_27 bf2_19 rfl rfl rfl
theorem bk2_27 {w : am_Wd} {l0 : Nat} {l1 : Int32} {l2 : Int32} {s0 : Int32} {s1 : Nat} : am_run 2 27 [some (.ref l0), some (.int l1), some (.int l2)] [.int s0, .ref s1] w = am_run 2 28 [some (.ref l0), some (.int l1), some (.int l2)] [.long (lN 0), .int s0, .ref s1] w := by
  refine (bu (ls'' := [some (.ref l0), some (.int l1), some (.int l2)]) (st' := [.long (lN 0), .int s0, .ref s1]) bf2_27 bf2_28 rfl rfl).trans ?_
  rfl
theorem bk2_19 {w : am_Wd} {l0 : Nat} {l1 : Int32} {l2 : Int32} {s0 : Int32} {s1 : Nat} : am_run 2 19 [some (.ref l0), some (.int l1), some (.int l2)] [.int s0, .ref s1] w = am_run 2 28 [some (.ref l0), some (.int l1), some (.int l2)] [.long (bj_lshl (lN 1) (l1 / (nI 4))), .int s0, .ref s1] w := by
  refine (bu (ls'' := [some (.ref l0), some (.int l1), some (.int l2)]) (st' := [.long (lN 1), .int s0, .ref s1]) bf2_19 bf2_20 rfl rfl).trans ?_
  refine (bu (ls'' := [some (.ref l0), some (.int l1), some (.int l2)]) (st' := [.int l1, .long (lN 1), .int s0, .ref s1]) bf2_20 bf2_21 rfl rfl).trans ?_
  refine (bu (ls'' := [some (.ref l0), some (.int l1), some (.int l2)]) (st' := [.int (nI 4), .int l1, .long (lN 1), .int s0, .ref s1]) bf2_21 bf2_22 rfl rfl).trans ?_
  refine (bu (ls'' := [some (.ref l0), some (.int l1), some (.int l2)]) (st' := [.int (l1 / (nI 4)), .long (lN 1), .int s0, .ref s1]) bf2_22 bf2_23 rfl rfl).trans ?_
  refine (bu (ls'' := [some (.ref l0), some (.int l1), some (.int l2)]) (st' := [.long (bj_lshl (lN 1) (l1 / (nI 4))), .int s0, .ref s1]) bf2_23 bf2_24 rfl rfl).trans ?_
  refine (bu (ls'' := [some (.ref l0), some (.int l1), some (.int l2)]) (st' := [.long (bj_lshl (lN 1) (l1 / (nI 4))), .int s0, .ref s1]) bf2_24 bf2_28 rfl rfl).trans ?_
  rfl
theorem bk2_28 {w : am_Wd} {l0 : Nat} {l1 : Int32} {l2 : Int32} {s0 : Int64} {s1 : Int32} {s2 : Nat} : am_run 2 28 [some (.ref l0), some (.int l1), some (.int l2)] [.long s0, .int s1, .ref s2] w = (am_wl w s2 s1 s0).bind fun w' => am_run 2 29 [some (.ref l0), some (.int l1), some (.int l2)] [] w' := by
  exact bh bf2_28 bf2_29 rfl (bge_wl) rfl
theorem bk2_29 {w : am_Wd} {l0 : Nat} {l1 : Int32} {l2 : Int32} : am_run 2 29 [some (.ref l0), some (.int l1), some (.int l2)] [] w = am_run 2 2 [some (.ref l0), some (.int l1), some (.int (l2 + (nI 1)))] [] w := by
  refine (bu (ls'' := [some (.ref l0), some (.int l1), some (.int (l2 + (nI 1)))]) (st' := []) bf2_29 bf2_32 rfl rfl).trans ?_
  refine (bu (ls'' := [some (.ref l0), some (.int l1), some (.int (l2 + (nI 1)))]) (st' := []) bf2_32 bf2_2 rfl rfl).trans ?_
  rfl
theorem bf3_0 : am_fetch (am_mth 3) 0 = some (.lconst 0, 1, [], [1, 2, 3]) := by decide +kernel
theorem bf3_1 : am_fetch (am_mth 3) 1 = some (.lstore_n 1, 1, [], [1, 2, 3]) := by decide +kernel
theorem bf3_2 : am_fetch (am_mth 3) 2 = some (.iconst 0, 1, [], [2, 3]) := by decide +kernel
theorem bf3_3 : am_fetch (am_mth 3) 3 = some (.istore_n 3, 1, [], [2, 3]) := by decide +kernel
theorem bf3_4 : am_fetch (am_mth 3) 4 = some (.iload_n 3, 1, [], [2]) := by decide +kernel
theorem bf3_5 : am_fetch (am_mth 3) 5 = some (.iconst 4, 1, [], [2]) := by decide +kernel
theorem bf3_6 : am_fetch (am_mth 3) 6 = some (.if_icmp .ge 18, 3, [], [2]) := by decide +kernel
theorem bf3_9 : am_fetch (am_mth 3) 9 = some (.lload_n 1, 1, [], [2]) := by decide +kernel
theorem bf3_10 : am_fetch (am_mth 3) 10 = some (.aload_n 0, 1, [], [1, 2]) := by decide +kernel
theorem bf3_11 : am_fetch (am_mth 3) 11 = some (.getfield 9, 3, [0, 4, 0, 596], [1, 2]) := by decide +kernel
theorem bf3_14 : am_fetch (am_mth 3) 14 = some (.iload_n 3, 1, [], [1, 2]) := by decide +kernel
theorem bf3_15 : am_fetch (am_mth 3) 15 = some (.laload, 1, [], [1, 2]) := by decide +kernel
theorem bf3_16 : am_fetch (am_mth 3) 16 = some (.lor, 1, [], [1, 2]) := by decide +kernel
theorem bf3_17 : am_fetch (am_mth 3) 17 = some (.lstore_n 1, 1, [], [1, 2]) := by decide +kernel
theorem bf3_18 : am_fetch (am_mth 3) 18 = some (.iinc 3 1, 3, [], [2]) := by decide +kernel
theorem bf3_21 : am_fetch (am_mth 3) 21 = some (.goto (-17), 3, [], [2]) := by decide +kernel
theorem bf3_24 : am_fetch (am_mth 3) 24 = some (.lload_n 1, 1, [], [0, 2, 3]) := by decide +kernel
theorem bf3_25 : am_fetch (am_mth 3) 25 = some (.lreturn, 1, [], [0, 1, 2, 3]) := by decide +kernel
theorem bk3_0 {w : am_Wd} {l0 : Nat} : am_run 3 0 [some (.ref l0), none, none, none] [] w = am_run 3 4 [some (.ref l0), some (.long (lN 0)), none, some (.int (nI 0))] [] w := by
  refine (bu (ls'' := [some (.ref l0), none, none, none]) (st' := [.long (lN 0)]) bf3_0 bf3_1 rfl rfl).trans ?_
  refine (bu (ls'' := [some (.ref l0), some (.long (lN 0)), none, none]) (st' := []) bf3_1 bf3_2 rfl rfl).trans ?_
  refine (bu (ls'' := [some (.ref l0), some (.long (lN 0)), none, none]) (st' := [.int (nI 0)]) bf3_2 bf3_3 rfl rfl).trans ?_
  refine (bu (ls'' := [some (.ref l0), some (.long (lN 0)), none, some (.int (nI 0))]) (st' := []) bf3_3 bf3_4 rfl rfl).trans ?_
  rfl
theorem bk3_4 {w : am_Wd} {l0 : Nat} {l1 : Int64} {l3 : Int32} : am_run 3 4 [some (.ref l0), some (.long l1), none, some (.int l3)] [] w = if (nI 4) ≤ l3 then am_run 3 24 [none, some (.long l1), none, none] [] w else am_run 3 9 [some (.ref l0), some (.long l1), none, some (.int l3)] [] w := by
  refine (bu (ls'' := [some (.ref l0), some (.long l1), none, some (.int l3)]) (st' := [.int l3]) bf3_4 bf3_5 rfl rfl).trans ?_
  refine (bu (ls'' := [some (.ref l0), some (.long l1), none, some (.int l3)]) (st' := [.int (nI 4), .int l3]) bf3_5 bf3_6 rfl rfl).trans ?_
  exact bic bf3_6 rfl bf3_24 bf3_9 rfl rfl rfl
theorem bk3_24 {w : am_Wd} {l1 : Int64} : am_run 3 24 [none, some (.long l1), none, none] [] w = some (.inl (some (.long l1)), w) := by
  refine (bu (ls'' := [none, none, none, none]) (st' := [.long l1]) bf3_24 bf3_25 rfl rfl).trans ?_
  exact am_e2 bf3_25 rfl (am_ge_rf w)
theorem bk3_9 {w : am_Wd} {l0 : Nat} {l1 : Int64} {l3 : Int32} : am_run 3 9 [some (.ref l0), some (.long l1), none, some (.int l3)] [] w = (am_gf w l0 4 0).bind fun v => am_run 3 14 [some (.ref l0), none, none, some (.int l3)] (v :: [.long l1]) w := by
  refine (bu (ls'' := [some (.ref l0), none, none, some (.int l3)]) (st' := [.long l1]) bf3_9 bf3_10 rfl rfl).trans ?_
  refine (bu (ls'' := [some (.ref l0), none, none, some (.int l3)]) (st' := [.ref l0, .long l1]) bf3_10 bf3_11 rfl rfl).trans ?_
  exact bh bf3_11 bf3_14 rfl (fun _ _ => am_ge_rf w) rfl
theorem bk3_14 {w : am_Wd} {l0 : Nat} {l3 : Int32} {s0 : Nat} {s1 : Int64} : am_run 3 14 [some (.ref l0), none, none, some (.int l3)] [.ref s0, .long s1] w = (am_rl w s0 l3).bind fun v => am_run 3 16 [some (.ref l0), none, none, some (.int l3)] (.long v :: [.long s1]) w := by
  refine (bu (ls'' := [some (.ref l0), none, none, some (.int l3)]) (st' := [.int l3, .ref s0, .long s1]) bf3_14 bf3_15 rfl rfl).trans ?_
  exact bh bf3_15 bf3_16 rfl (fun _ _ => am_ge_rf w) rfl
theorem bk3_16 {w : am_Wd} {l0 : Nat} {l3 : Int32} {s0 : Int64} {s1 : Int64} : am_run 3 16 [some (.ref l0), none, none, some (.int l3)] [.long s0, .long s1] w = am_run 3 4 [some (.ref l0), some (.long (s1 ||| s0)), none, some (.int (l3 + (nI 1)))] [] w := by
  refine (bu (ls'' := [some (.ref l0), none, none, some (.int l3)]) (st' := [.long (s1 ||| s0)]) bf3_16 bf3_17 rfl rfl).trans ?_
  refine (bu (ls'' := [some (.ref l0), some (.long (s1 ||| s0)), none, some (.int l3)]) (st' := []) bf3_17 bf3_18 rfl rfl).trans ?_
  refine (bu (ls'' := [some (.ref l0), some (.long (s1 ||| s0)), none, some (.int (l3 + (nI 1)))]) (st' := []) bf3_18 bf3_21 rfl rfl).trans ?_
  refine (bu (ls'' := [some (.ref l0), some (.long (s1 ||| s0)), none, some (.int (l3 + (nI 1)))]) (st' := []) bf3_21 bf3_4 rfl rfl).trans ?_
  rfl
theorem bf4_0 : am_fetch (am_mth 4) 0 = some (.aload_n 0, 1, [], [1, 2, 3]) := by decide +kernel
theorem bf4_1 : am_fetch (am_mth 4) 1 = some (.getfield 9, 3, [0, 4, 0, 596], [1, 2, 3]) := by decide +kernel
theorem bf4_4 : am_fetch (am_mth 4) 4 = some (.iconst 3, 1, [], [1, 2, 3]) := by decide +kernel
theorem bf4_5 : am_fetch (am_mth 4) 5 = some (.laload, 1, [], [1, 2, 3]) := by decide +kernel
theorem bf4_6 : am_fetch (am_mth 4) 6 = some (.lstore_n 1, 1, [], [1, 2, 3]) := by decide +kernel
theorem bf4_7 : am_fetch (am_mth 4) 7 = some (.iconst 3, 1, [], [2, 3]) := by decide +kernel
theorem bf4_8 : am_fetch (am_mth 4) 8 = some (.istore_n 3, 1, [], [2, 3]) := by decide +kernel
theorem bf4_9 : am_fetch (am_mth 4) 9 = some (.iload_n 3, 1, [], [2]) := by decide +kernel
theorem bf4_10 : am_fetch (am_mth 4) 10 = some (.ifCond .le 23, 3, [], [2]) := by decide +kernel
theorem bf4_13 : am_fetch (am_mth 4) 13 = some (.aload_n 0, 1, [], [2]) := by decide +kernel
theorem bf4_14 : am_fetch (am_mth 4) 14 = some (.getfield 9, 3, [0, 4, 0, 596], [2]) := by decide +kernel
theorem bf4_17 : am_fetch (am_mth 4) 17 = some (.iload_n 3, 1, [], [2]) := by decide +kernel
theorem bf4_18 : am_fetch (am_mth 4) 18 = some (.aload_n 0, 1, [], [2]) := by decide +kernel
theorem bf4_19 : am_fetch (am_mth 4) 19 = some (.getfield 9, 3, [0, 4, 0, 596], [2]) := by decide +kernel
theorem bf4_22 : am_fetch (am_mth 4) 22 = some (.iload_n 3, 1, [], [2]) := by decide +kernel
theorem bf4_23 : am_fetch (am_mth 4) 23 = some (.iconst 1, 1, [], [2]) := by decide +kernel
theorem bf4_24 : am_fetch (am_mth 4) 24 = some (.isub, 1, [], [2]) := by decide +kernel
theorem bf4_25 : am_fetch (am_mth 4) 25 = some (.laload, 1, [], [2]) := by decide +kernel
theorem bf4_26 : am_fetch (am_mth 4) 26 = some (.lastore, 1, [], [2]) := by decide +kernel
theorem bf4_27 : am_fetch (am_mth 4) 27 = some (.iinc 3 (-1), 3, [], [2]) := by decide +kernel
theorem bf4_30 : am_fetch (am_mth 4) 30 = some (.goto (-21), 3, [], [2]) := by decide +kernel
theorem bf4_33 : am_fetch (am_mth 4) 33 = some (.aload_n 0, 1, [], [2, 3]) := by decide +kernel
theorem bf4_34 : am_fetch (am_mth 4) 34 = some (.getfield 9, 3, [0, 4, 0, 596], [0, 2, 3]) := by decide +kernel
theorem bf4_37 : am_fetch (am_mth 4) 37 = some (.iconst 0, 1, [], [0, 2, 3]) := by decide +kernel
theorem bf4_38 : am_fetch (am_mth 4) 38 = some (.lload_n 1, 1, [], [0, 2, 3]) := by decide +kernel
theorem bf4_39 : am_fetch (am_mth 4) 39 = some (.lastore, 1, [], [0, 1, 2, 3]) := by decide +kernel
theorem bf4_40 : am_fetch (am_mth 4) 40 = some (.return_, 1, [], [0, 1, 2, 3]) := by decide +kernel
theorem bk4_0 {w : am_Wd} {l0 : Nat} : am_run 4 0 [some (.ref l0), none, none, none] [] w = (am_gf w l0 4 0).bind fun v => am_run 4 4 [some (.ref l0), none, none, none] (v :: []) w := by
  refine (bu (ls'' := [some (.ref l0), none, none, none]) (st' := [.ref l0]) bf4_0 bf4_1 rfl rfl).trans ?_
  exact bh bf4_1 bf4_4 rfl (fun _ _ => am_ge_rf w) rfl
theorem bk4_4 {w : am_Wd} {l0 : Nat} {s0 : Nat} : am_run 4 4 [some (.ref l0), none, none, none] [.ref s0] w = (am_rl w s0 (nI 3)).bind fun v => am_run 4 6 [some (.ref l0), none, none, none] (.long v :: []) w := by
  refine (bu (ls'' := [some (.ref l0), none, none, none]) (st' := [.int (nI 3), .ref s0]) bf4_4 bf4_5 rfl rfl).trans ?_
  exact bh bf4_5 bf4_6 rfl (fun _ _ => am_ge_rf w) rfl
theorem bk4_6 {w : am_Wd} {l0 : Nat} {s0 : Int64} : am_run 4 6 [some (.ref l0), none, none, none] [.long s0] w = am_run 4 9 [some (.ref l0), some (.long s0), none, some (.int (nI 3))] [] w := by
  refine (bu (ls'' := [some (.ref l0), some (.long s0), none, none]) (st' := []) bf4_6 bf4_7 rfl rfl).trans ?_
  refine (bu (ls'' := [some (.ref l0), some (.long s0), none, none]) (st' := [.int (nI 3)]) bf4_7 bf4_8 rfl rfl).trans ?_
  refine (bu (ls'' := [some (.ref l0), some (.long s0), none, some (.int (nI 3))]) (st' := []) bf4_8 bf4_9 rfl rfl).trans ?_
  rfl
theorem bk4_9 {w : am_Wd} {l0 : Nat} {l1 : Int64} {l3 : Int32} : am_run 4 9 [some (.ref l0), some (.long l1), none, some (.int l3)] [] w = if l3 ≤ nI 0 then am_run 4 33 [some (.ref l0), some (.long l1), none, none] [] w else am_run 4 13 [some (.ref l0), some (.long l1), none, some (.int l3)] [] w := by
  refine (bu (ls'' := [some (.ref l0), some (.long l1), none, some (.int l3)]) (st' := [.int l3]) bf4_9 bf4_10 rfl rfl).trans ?_
  exact bifc bf4_10 rfl bf4_33 bf4_13 rfl rfl rfl
theorem bk4_33 {w : am_Wd} {l0 : Nat} {l1 : Int64} : am_run 4 33 [some (.ref l0), some (.long l1), none, none] [] w = (am_gf w l0 4 0).bind fun v => am_run 4 37 [none, some (.long l1), none, none] (v :: []) w := by
  refine (bu (ls'' := [none, some (.long l1), none, none]) (st' := [.ref l0]) bf4_33 bf4_34 rfl rfl).trans ?_
  exact bh bf4_34 bf4_37 rfl (fun _ _ => am_ge_rf w) rfl
theorem bk4_13 {w : am_Wd} {l0 : Nat} {l1 : Int64} {l3 : Int32} : am_run 4 13 [some (.ref l0), some (.long l1), none, some (.int l3)] [] w = (am_gf w l0 4 0).bind fun v => am_run 4 17 [some (.ref l0), some (.long l1), none, some (.int l3)] (v :: []) w := by
  refine (bu (ls'' := [some (.ref l0), some (.long l1), none, some (.int l3)]) (st' := [.ref l0]) bf4_13 bf4_14 rfl rfl).trans ?_
  exact bh bf4_14 bf4_17 rfl (fun _ _ => am_ge_rf w) rfl
theorem bk4_37 {w : am_Wd} {l1 : Int64} {s0 : Nat} : am_run 4 37 [none, some (.long l1), none, none] [.ref s0] w = (am_wl w s0 (nI 0) l1).bind fun w' => am_run 4 40 [none, none, none, none] [] w' := by
  refine (bu (ls'' := [none, some (.long l1), none, none]) (st' := [.int (nI 0), .ref s0]) bf4_37 bf4_38 rfl rfl).trans ?_
  refine (bu (ls'' := [none, none, none, none]) (st' := [.long l1, .int (nI 0), .ref s0]) bf4_38 bf4_39 rfl rfl).trans ?_
  exact bh bf4_39 bf4_40 rfl (bge_wl) rfl
theorem bk4_17 {w : am_Wd} {l0 : Nat} {l1 : Int64} {l3 : Int32} {s0 : Nat} : am_run 4 17 [some (.ref l0), some (.long l1), none, some (.int l3)] [.ref s0] w = (am_gf w l0 4 0).bind fun v => am_run 4 22 [some (.ref l0), some (.long l1), none, some (.int l3)] (v :: [.int l3, .ref s0]) w := by
  refine (bu (ls'' := [some (.ref l0), some (.long l1), none, some (.int l3)]) (st' := [.int l3, .ref s0]) bf4_17 bf4_18 rfl rfl).trans ?_
  refine (bu (ls'' := [some (.ref l0), some (.long l1), none, some (.int l3)]) (st' := [.ref l0, .int l3, .ref s0]) bf4_18 bf4_19 rfl rfl).trans ?_
  exact bh bf4_19 bf4_22 rfl (fun _ _ => am_ge_rf w) rfl
theorem bk4_40 {w : am_Wd}  : am_run 4 40 [none, none, none, none] [] w = some (.inl none, w) := by
  exact am_e2 bf4_40 rfl (am_ge_rf w)
theorem bk4_22 {w : am_Wd} {l0 : Nat} {l1 : Int64} {l3 : Int32} {s0 : Nat} {s1 : Int32} {s2 : Nat} : am_run 4 22 [some (.ref l0), some (.long l1), none, some (.int l3)] [.ref s0, .int s1, .ref s2] w = (am_rl w s0 (l3 - (nI 1))).bind fun v => am_run 4 26 [some (.ref l0), some (.long l1), none, some (.int l3)] (.long v :: [.int s1, .ref s2]) w := by
  refine (bu (ls'' := [some (.ref l0), some (.long l1), none, some (.int l3)]) (st' := [.int l3, .ref s0, .int s1, .ref s2]) bf4_22 bf4_23 rfl rfl).trans ?_
  refine (bu (ls'' := [some (.ref l0), some (.long l1), none, some (.int l3)]) (st' := [.int (nI 1), .int l3, .ref s0, .int s1, .ref s2]) bf4_23 bf4_24 rfl rfl).trans ?_
  refine (bu (ls'' := [some (.ref l0), some (.long l1), none, some (.int l3)]) (st' := [.int (l3 - (nI 1)), .ref s0, .int s1, .ref s2]) bf4_24 bf4_25 rfl rfl).trans ?_
  exact bh bf4_25 bf4_26 rfl (fun _ _ => am_ge_rf w) rfl
theorem bk4_26 {w : am_Wd} {l0 : Nat} {l1 : Int64} {l3 : Int32} {s0 : Int64} {s1 : Int32} {s2 : Nat} : am_run 4 26 [some (.ref l0), some (.long l1), none, some (.int l3)] [.long s0, .int s1, .ref s2] w = (am_wl w s2 s1 s0).bind fun w' => am_run 4 27 [some (.ref l0), some (.long l1), none, some (.int l3)] [] w' := by
  exact bh bf4_26 bf4_27 rfl (bge_wl) rfl
theorem bk4_27 {w : am_Wd} {l0 : Nat} {l1 : Int64} {l3 : Int32} : am_run 4 27 [some (.ref l0), some (.long l1), none, some (.int l3)] [] w = am_run 4 9 [some (.ref l0), some (.long l1), none, some (.int (l3 + (-1 : Int32)))] [] w := by
  refine (bu (ls'' := [some (.ref l0), some (.long l1), none, some (.int (l3 + (-1 : Int32)))]) (st' := []) bf4_27 bf4_30 rfl rfl).trans ?_
  refine (bu (ls'' := [some (.ref l0), some (.long l1), none, some (.int (l3 + (-1 : Int32)))]) (st' := []) bf4_30 bf4_9 rfl rfl).trans ?_
  rfl
theorem bf5_0 : am_fetch (am_mth 5) 0 = some (.aload_n 0, 1, [], [1, 2, 3]) := by decide +kernel
theorem bf5_1 : am_fetch (am_mth 5) 1 = some (.getfield 9, 3, [0, 4, 0, 596], [1, 2, 3]) := by decide +kernel
theorem bf5_4 : am_fetch (am_mth 5) 4 = some (.iconst 0, 1, [], [1, 2, 3]) := by decide +kernel
theorem bf5_5 : am_fetch (am_mth 5) 5 = some (.laload, 1, [], [1, 2, 3]) := by decide +kernel
theorem bf5_6 : am_fetch (am_mth 5) 6 = some (.lstore_n 1, 1, [], [1, 2, 3]) := by decide +kernel
theorem bf5_7 : am_fetch (am_mth 5) 7 = some (.iconst 0, 1, [], [2, 3]) := by decide +kernel
theorem bf5_8 : am_fetch (am_mth 5) 8 = some (.istore_n 3, 1, [], [2, 3]) := by decide +kernel
theorem bf5_9 : am_fetch (am_mth 5) 9 = some (.iload_n 3, 1, [], [2]) := by decide +kernel
theorem bf5_10 : am_fetch (am_mth 5) 10 = some (.iconst 3, 1, [], [2]) := by decide +kernel
theorem bf5_11 : am_fetch (am_mth 5) 11 = some (.if_icmp .ge 23, 3, [], [2]) := by decide +kernel
theorem bf5_14 : am_fetch (am_mth 5) 14 = some (.aload_n 0, 1, [], [2]) := by decide +kernel
theorem bf5_15 : am_fetch (am_mth 5) 15 = some (.getfield 9, 3, [0, 4, 0, 596], [2]) := by decide +kernel
theorem bf5_18 : am_fetch (am_mth 5) 18 = some (.iload_n 3, 1, [], [2]) := by decide +kernel
theorem bf5_19 : am_fetch (am_mth 5) 19 = some (.aload_n 0, 1, [], [2]) := by decide +kernel
theorem bf5_20 : am_fetch (am_mth 5) 20 = some (.getfield 9, 3, [0, 4, 0, 596], [2]) := by decide +kernel
theorem bf5_23 : am_fetch (am_mth 5) 23 = some (.iload_n 3, 1, [], [2]) := by decide +kernel
theorem bf5_24 : am_fetch (am_mth 5) 24 = some (.iconst 1, 1, [], [2]) := by decide +kernel
theorem bf5_25 : am_fetch (am_mth 5) 25 = some (.iadd, 1, [], [2]) := by decide +kernel
theorem bf5_26 : am_fetch (am_mth 5) 26 = some (.laload, 1, [], [2]) := by decide +kernel
theorem bf5_27 : am_fetch (am_mth 5) 27 = some (.lastore, 1, [], [2]) := by decide +kernel
theorem bf5_28 : am_fetch (am_mth 5) 28 = some (.iinc 3 1, 3, [], [2]) := by decide +kernel
theorem bf5_31 : am_fetch (am_mth 5) 31 = some (.goto (-22), 3, [], [2]) := by decide +kernel
theorem bf5_34 : am_fetch (am_mth 5) 34 = some (.aload_n 0, 1, [], [2, 3]) := by decide +kernel
theorem bf5_35 : am_fetch (am_mth 5) 35 = some (.getfield 9, 3, [0, 4, 0, 596], [0, 2, 3]) := by decide +kernel
theorem bf5_38 : am_fetch (am_mth 5) 38 = some (.iconst 3, 1, [], [0, 2, 3]) := by decide +kernel
theorem bf5_39 : am_fetch (am_mth 5) 39 = some (.lload_n 1, 1, [], [0, 2, 3]) := by decide +kernel
theorem bf5_40 : am_fetch (am_mth 5) 40 = some (.lastore, 1, [], [0, 1, 2, 3]) := by decide +kernel
theorem bf5_41 : am_fetch (am_mth 5) 41 = some (.return_, 1, [], [0, 1, 2, 3]) := by decide +kernel
theorem bk5_0 {w : am_Wd} {l0 : Nat} : am_run 5 0 [some (.ref l0), none, none, none] [] w = (am_gf w l0 4 0).bind fun v => am_run 5 4 [some (.ref l0), none, none, none] (v :: []) w := by
  refine (bu (ls'' := [some (.ref l0), none, none, none]) (st' := [.ref l0]) bf5_0 bf5_1 rfl rfl).trans ?_
  exact bh bf5_1 bf5_4 rfl (fun _ _ => am_ge_rf w) rfl
theorem bk5_4 {w : am_Wd} {l0 : Nat} {s0 : Nat} : am_run 5 4 [some (.ref l0), none, none, none] [.ref s0] w = (am_rl w s0 (nI 0)).bind fun v => am_run 5 6 [some (.ref l0), none, none, none] (.long v :: []) w := by
  refine (bu (ls'' := [some (.ref l0), none, none, none]) (st' := [.int (nI 0), .ref s0]) bf5_4 bf5_5 rfl rfl).trans ?_
  exact bh bf5_5 bf5_6 rfl (fun _ _ => am_ge_rf w) rfl
theorem bk5_6 {w : am_Wd} {l0 : Nat} {s0 : Int64} : am_run 5 6 [some (.ref l0), none, none, none] [.long s0] w = am_run 5 9 [some (.ref l0), some (.long s0), none, some (.int (nI 0))] [] w := by
  refine (bu (ls'' := [some (.ref l0), some (.long s0), none, none]) (st' := []) bf5_6 bf5_7 rfl rfl).trans ?_
  refine (bu (ls'' := [some (.ref l0), some (.long s0), none, none]) (st' := [.int (nI 0)]) bf5_7 bf5_8 rfl rfl).trans ?_
  refine (bu (ls'' := [some (.ref l0), some (.long s0), none, some (.int (nI 0))]) (st' := []) bf5_8 bf5_9 rfl rfl).trans ?_
  rfl
theorem bk5_9 {w : am_Wd} {l0 : Nat} {l1 : Int64} {l3 : Int32} : am_run 5 9 [some (.ref l0), some (.long l1), none, some (.int l3)] [] w = if (nI 3) ≤ l3 then am_run 5 34 [some (.ref l0), some (.long l1), none, none] [] w else am_run 5 14 [some (.ref l0), some (.long l1), none, some (.int l3)] [] w := by
  refine (bu (ls'' := [some (.ref l0), some (.long l1), none, some (.int l3)]) (st' := [.int l3]) bf5_9 bf5_10 rfl rfl).trans ?_
  refine (bu (ls'' := [some (.ref l0), some (.long l1), none, some (.int l3)]) (st' := [.int (nI 3), .int l3]) bf5_10 bf5_11 rfl rfl).trans ?_
  exact bic bf5_11 rfl bf5_34 bf5_14 rfl rfl rfl
theorem bk5_34 {w : am_Wd} {l0 : Nat} {l1 : Int64} : am_run 5 34 [some (.ref l0), some (.long l1), none, none] [] w = (am_gf w l0 4 0).bind fun v => am_run 5 38 [none, some (.long l1), none, none] (v :: []) w := by
  refine (bu (ls'' := [none, some (.long l1), none, none]) (st' := [.ref l0]) bf5_34 bf5_35 rfl rfl).trans ?_
  exact bh bf5_35 bf5_38 rfl (fun _ _ => am_ge_rf w) rfl
theorem bk5_14 {w : am_Wd} {l0 : Nat} {l1 : Int64} {l3 : Int32} : am_run 5 14 [some (.ref l0), some (.long l1), none, some (.int l3)] [] w = (am_gf w l0 4 0).bind fun v => am_run 5 18 [some (.ref l0), some (.long l1), none, some (.int l3)] (v :: []) w := by
  refine (bu (ls'' := [some (.ref l0), some (.long l1), none, some (.int l3)]) (st' := [.ref l0]) bf5_14 bf5_15 rfl rfl).trans ?_
  exact bh bf5_15 bf5_18 rfl (fun _ _ => am_ge_rf w) rfl
theorem bk5_38 {w : am_Wd} {l1 : Int64} {s0 : Nat} : am_run 5 38 [none, some (.long l1), none, none] [.ref s0] w = (am_wl w s0 (nI 3) l1).bind fun w' => am_run 5 41 [none, none, none, none] [] w' := by
  refine (bu (ls'' := [none, some (.long l1), none, none]) (st' := [.int (nI 3), .ref s0]) bf5_38 bf5_39 rfl rfl).trans ?_
  refine (bu (ls'' := [none, none, none, none]) (st' := [.long l1, .int (nI 3), .ref s0]) bf5_39 bf5_40 rfl rfl).trans ?_
  exact bh bf5_40 bf5_41 rfl (bge_wl) rfl
theorem bk5_18 {w : am_Wd} {l0 : Nat} {l1 : Int64} {l3 : Int32} {s0 : Nat} : am_run 5 18 [some (.ref l0), some (.long l1), none, some (.int l3)] [.ref s0] w = (am_gf w l0 4 0).bind fun v => am_run 5 23 [some (.ref l0), some (.long l1), none, some (.int l3)] (v :: [.int l3, .ref s0]) w := by
  refine (bu (ls'' := [some (.ref l0), some (.long l1), none, some (.int l3)]) (st' := [.int l3, .ref s0]) bf5_18 bf5_19 rfl rfl).trans ?_
  refine (bu (ls'' := [some (.ref l0), some (.long l1), none, some (.int l3)]) (st' := [.ref l0, .int l3, .ref s0]) bf5_19 bf5_20 rfl rfl).trans ?_
  exact bh bf5_20 bf5_23 rfl (fun _ _ => am_ge_rf w) rfl
theorem bk5_41 {w : am_Wd}  : am_run 5 41 [none, none, none, none] [] w = some (.inl none, w) := by
  exact am_e2 bf5_41 rfl (am_ge_rf w)
theorem bk5_23 {w : am_Wd} {l0 : Nat} {l1 : Int64} {l3 : Int32} {s0 : Nat} {s1 : Int32} {s2 : Nat} : am_run 5 23 [some (.ref l0), some (.long l1), none, some (.int l3)] [.ref s0, .int s1, .ref s2] w = (am_rl w s0 (l3 + (nI 1))).bind fun v => am_run 5 27 [some (.ref l0), some (.long l1), none, some (.int l3)] (.long v :: [.int s1, .ref s2]) w := by
  refine (bu (ls'' := [some (.ref l0), some (.long l1), none, some (.int l3)]) (st' := [.int l3, .ref s0, .int s1, .ref s2]) bf5_23 bf5_24 rfl rfl).trans ?_
  refine (bu (ls'' := [some (.ref l0), some (.long l1), none, some (.int l3)]) (st' := [.int (nI 1), .int l3, .ref s0, .int s1, .ref s2]) bf5_24 bf5_25 rfl rfl).trans ?_
  refine (bu (ls'' := [some (.ref l0), some (.long l1), none, some (.int l3)]) (st' := [.int (l3 + (nI 1)), .ref s0, .int s1, .ref s2]) bf5_25 bf5_26 rfl rfl).trans ?_
  exact bh bf5_26 bf5_27 rfl (fun _ _ => am_ge_rf w) rfl
theorem bk5_27 {w : am_Wd} {l0 : Nat} {l1 : Int64} {l3 : Int32} {s0 : Int64} {s1 : Int32} {s2 : Nat} : am_run 5 27 [some (.ref l0), some (.long l1), none, some (.int l3)] [.long s0, .int s1, .ref s2] w = (am_wl w s2 s1 s0).bind fun w' => am_run 5 28 [some (.ref l0), some (.long l1), none, some (.int l3)] [] w' := by
  exact bh bf5_27 bf5_28 rfl (bge_wl) rfl
theorem bk5_28 {w : am_Wd} {l0 : Nat} {l1 : Int64} {l3 : Int32} : am_run 5 28 [some (.ref l0), some (.long l1), none, some (.int l3)] [] w = am_run 5 9 [some (.ref l0), some (.long l1), none, some (.int (l3 + (nI 1)))] [] w := by
  refine (bu (ls'' := [some (.ref l0), some (.long l1), none, some (.int (l3 + (nI 1)))]) (st' := []) bf5_28 bf5_31 rfl rfl).trans ?_
  refine (bu (ls'' := [some (.ref l0), some (.long l1), none, some (.int (l3 + (nI 1)))]) (st' := []) bf5_31 bf5_9 rfl rfl).trans ?_
  rfl
theorem bf6_0 : am_fetch (am_mth 6) 0 = some (.aload_n 0, 1, [], []) := by decide +kernel
theorem bf6_1 : am_fetch (am_mth 6) 1 = some (.invokespecial 3, 3, [1, 92, 85, 86], []) := by decide +kernel
theorem bf6_4 : am_fetch (am_mth 6) 4 = some (.aload_n 0, 1, [], []) := by decide +kernel
theorem bf6_5 : am_fetch (am_mth 6) 5 = some (.bipush 72, 2, [], []) := by decide +kernel
theorem bf6_7 : am_fetch (am_mth 6) 7 = some (.newarray .int, 2, [0, 108], []) := by decide +kernel
theorem bf6_9 : am_fetch (am_mth 6) 9 = some (.putfield 11, 3, [0, 5, 0, 93], []) := by decide +kernel
theorem bf6_12 : am_fetch (am_mth 6) 12 = some (.aload_n 0, 1, [], []) := by decide +kernel
theorem bf6_13 : am_fetch (am_mth 6) 13 = some (.bipush 72, 2, [], [0]) := by decide +kernel
theorem bf6_15 : am_fetch (am_mth 6) 15 = some (.newarray .int, 2, [0, 108], [0]) := by decide +kernel
theorem bf6_17 : am_fetch (am_mth 6) 17 = some (.putfield 15, 3, [0, 5, 1, 94], [0]) := by decide +kernel
theorem bf6_20 : am_fetch (am_mth 6) 20 = some (.return_, 1, [], [0]) := by decide +kernel
theorem bk6_0 {w : am_Wd} {l0 : Nat} : am_run 6 0 [some (.ref l0)] [] w = (am_na w 0 (nI 72)).bind fun w' => am_run 6 9 [some (.ref l0)] (.ref w.2.1 :: [.ref l0]) w' := by
  refine (bu (ls'' := [some (.ref l0)]) (st' := [.ref l0]) bf6_0 bf6_1 rfl rfl).trans ?_
  refine (bu (ls'' := [some (.ref l0)]) (st' := []) bf6_1 bf6_4 rfl rfl).trans ?_
  refine (bu (ls'' := [some (.ref l0)]) (st' := [.ref l0]) bf6_4 bf6_5 rfl rfl).trans ?_
  refine (bu (ls'' := [some (.ref l0)]) (st' := [.int (nI 72), .ref l0]) bf6_5 bf6_7 rfl rfl).trans ?_
  exact bh bf6_7 bf6_9 rfl (bge_na) rfl
theorem bk6_9 {w : am_Wd} {l0 : Nat} {s0 : Nat} {s1 : Nat} : am_run 6 9 [some (.ref l0)] [.ref s0, .ref s1] w = (am_pf w s1 5 0 (.ref s0)).bind fun w' => am_run 6 12 [some (.ref l0)] [] w' := by
  exact bh bf6_9 bf6_12 rfl (bge_pf) rfl
theorem bk6_12 {w : am_Wd} {l0 : Nat} : am_run 6 12 [some (.ref l0)] [] w = (am_na w 0 (nI 72)).bind fun w' => am_run 6 17 [none] (.ref w.2.1 :: [.ref l0]) w' := by
  refine (bu (ls'' := [none]) (st' := [.ref l0]) bf6_12 bf6_13 rfl rfl).trans ?_
  refine (bu (ls'' := [none]) (st' := [.int (nI 72), .ref l0]) bf6_13 bf6_15 rfl rfl).trans ?_
  exact bh bf6_15 bf6_17 rfl (bge_na) rfl
theorem bk6_17 {w : am_Wd} {s0 : Nat} {s1 : Nat} : am_run 6 17 [none] [.ref s0, .ref s1] w = (am_pf w s1 5 1 (.ref s0)).bind fun w' => am_run 6 20 [none] [] w' := by
  exact bh bf6_17 bf6_20 rfl (bge_pf) rfl
theorem bk6_20 {w : am_Wd}  : am_run 6 20 [none] [] w = some (.inl none, w) := by
  exact am_e2 bf6_20 rfl (am_ge_rf w)
theorem bf7_0 : am_fetch (am_mth 7) 0 = some (.iload_n 0, 1, [], []) := by decide +kernel
theorem bf7_1 : am_fetch (am_mth 7) 1 = some (.ifCond .lt 13, 3, [], []) := by decide +kernel
theorem bf7_4 : am_fetch (am_mth 7) 4 = some (.iload_n 0, 1, [], []) := by decide +kernel
theorem bf7_5 : am_fetch (am_mth 7) 5 = some (.bipush 72, 2, [], [0]) := by decide +kernel
theorem bf7_7 : am_fetch (am_mth 7) 7 = some (.if_icmp .ge 7, 3, [], [0]) := by decide +kernel
theorem bf7_10 : am_fetch (am_mth 7) 10 = some (.iconst 1, 1, [], [0]) := by decide +kernel
theorem bf7_11 : am_fetch (am_mth 7) 11 = some (.goto 4, 3, [], [0]) := by decide +kernel
theorem bf7_14 : am_fetch (am_mth 7) 14 = some (.iconst 0, 1, [], [0]) := by decide +kernel
theorem bf7_15 : am_fetch (am_mth 7) 15 = some (.ireturn, 1, [1], [0]) := by decide +kernel
theorem bk7_0 {w : am_Wd} {l0 : Int32} : am_run 7 0 [some (.int l0)] [] w = if l0 < nI 0 then am_run 7 14 [none] [] w else am_run 7 4 [some (.int l0)] [] w := by
  refine (bu (ls'' := [some (.int l0)]) (st' := [.int l0]) bf7_0 bf7_1 rfl rfl).trans ?_
  exact bifc bf7_1 rfl bf7_14 bf7_4 rfl rfl rfl
theorem bk7_14 {w : am_Wd}  : am_run 7 14 [none] [] w = am_run 7 15 [none] [.int (nI 0)] w := by
  refine (bu (ls'' := [none]) (st' := [.int (nI 0)]) bf7_14 bf7_15 rfl rfl).trans ?_
  rfl
theorem bk7_4 {w : am_Wd} {l0 : Int32} : am_run 7 4 [some (.int l0)] [] w = if (nI 72) ≤ l0 then am_run 7 14 [none] [] w else am_run 7 10 [none] [] w := by
  refine (bu (ls'' := [none]) (st' := [.int l0]) bf7_4 bf7_5 rfl rfl).trans ?_
  refine (bu (ls'' := [none]) (st' := [.int (nI 72), .int l0]) bf7_5 bf7_7 rfl rfl).trans ?_
  exact bic bf7_7 rfl bf7_14 bf7_10 rfl rfl rfl
theorem bk7_15 {w : am_Wd} {s0 : Int32} (hb : am_ok (am_rt 1) (.int s0) = true) : am_run 7 15 [none] [.int s0] w = some (.inl (some (.int s0)), w) := by
  exact am_e2 bf7_15 (by unfold am_stp; exact if_pos ⟨by decide, hb⟩) (am_ge_rf w)
theorem bk7_10 {w : am_Wd}  : am_run 7 10 [none] [] w = am_run 7 15 [none] [.int (nI 1)] w := by
  refine (bu (ls'' := [none]) (st' := [.int (nI 1)]) bf7_10 bf7_11 rfl rfl).trans ?_
  refine (bu (ls'' := [none]) (st' := [.int (nI 1)]) bf7_11 bf7_15 rfl rfl).trans ?_
  rfl
theorem bf8_0 : am_fetch (am_mth 8) 0 = some (.lconst 1, 1, [], [4, 5]) := by decide +kernel
theorem bf8_1 : am_fetch (am_mth 8) 1 = some (.iload_n 1, 1, [], [4, 5]) := by decide +kernel
theorem bf8_2 : am_fetch (am_mth 8) 2 = some (.lshl, 1, [], [1, 4, 5]) := by decide +kernel
theorem bf8_3 : am_fetch (am_mth 8) 3 = some (.lstore 4, 2, [], [1, 4, 5]) := by decide +kernel
theorem bf8_5 : am_fetch (am_mth 8) 5 = some (.aload_n 0, 1, [], [1, 5]) := by decide +kernel
theorem bf8_6 : am_fetch (am_mth 8) 6 = some (.iload_n 2, 1, [], [1, 5]) := by decide +kernel
theorem bf8_7 : am_fetch (am_mth 8) 7 = some (.ifCond .eq 13, 3, [], [1, 2, 5]) := by decide +kernel
theorem bf8_10 : am_fetch (am_mth 8) 10 = some (.aload_n 0, 1, [], [1, 2, 5]) := by decide +kernel
theorem bf8_11 : am_fetch (am_mth 8) 11 = some (.getfield 44, 3, [0, 5, 2, 95], [1, 2, 5]) := by decide +kernel
theorem bf8_14 : am_fetch (am_mth 8) 14 = some (.lload 4, 2, [], [1, 2, 5]) := by decide +kernel
theorem bf8_16 : am_fetch (am_mth 8) 16 = some (.lor, 1, [], [1, 2, 5]) := by decide +kernel
theorem bf8_17 : am_fetch (am_mth 8) 17 = some (.goto 14, 3, [], [1, 2, 5]) := by decide +kernel
theorem bf8_20 : am_fetch (am_mth 8) 20 = some (.aload_n 0, 1, [], [1, 2, 5]) := by decide +kernel
theorem bf8_21 : am_fetch (am_mth 8) 21 = some (.getfield 44, 3, [0, 5, 2, 95], [1, 2, 5]) := by decide +kernel
theorem bf8_24 : am_fetch (am_mth 8) 24 = some (.lload 4, 2, [], [1, 2, 5]) := by decide +kernel
theorem bf8_26 : am_fetch (am_mth 8) 26 = some (.ldc2_w 48, 3, [0, 18446744073709551615, 536], [1, 2, 5]) := by decide +kernel
theorem bf8_29 : am_fetch (am_mth 8) 29 = some (.lxor, 1, [], [1, 2, 5]) := by decide +kernel
theorem bf8_30 : am_fetch (am_mth 8) 30 = some (.land, 1, [], [1, 2, 5]) := by decide +kernel
theorem bf8_31 : am_fetch (am_mth 8) 31 = some (.putfield 44, 3, [0, 5, 2, 95], [1, 2, 5]) := by decide +kernel
theorem bf8_34 : am_fetch (am_mth 8) 34 = some (.aload_n 0, 1, [], [1, 2, 5]) := by decide +kernel
theorem bf8_35 : am_fetch (am_mth 8) 35 = some (.iload_n 3, 1, [], [1, 2, 5]) := by decide +kernel
theorem bf8_36 : am_fetch (am_mth 8) 36 = some (.ifCond .eq 13, 3, [], [1, 2, 3, 5]) := by decide +kernel
theorem bf8_39 : am_fetch (am_mth 8) 39 = some (.aload_n 0, 1, [], [1, 2, 3, 5]) := by decide +kernel
theorem bf8_40 : am_fetch (am_mth 8) 40 = some (.getfield 50, 3, [0, 5, 3, 98], [0, 1, 2, 3, 5]) := by decide +kernel
theorem bf8_43 : am_fetch (am_mth 8) 43 = some (.lload 4, 2, [], [0, 1, 2, 3, 5]) := by decide +kernel
theorem bf8_45 : am_fetch (am_mth 8) 45 = some (.lor, 1, [], [0, 1, 2, 3, 4, 5]) := by decide +kernel
theorem bf8_46 : am_fetch (am_mth 8) 46 = some (.goto 14, 3, [], [0, 1, 2, 3, 4, 5]) := by decide +kernel
theorem bf8_49 : am_fetch (am_mth 8) 49 = some (.aload_n 0, 1, [], [1, 2, 3, 5]) := by decide +kernel
theorem bf8_50 : am_fetch (am_mth 8) 50 = some (.getfield 50, 3, [0, 5, 3, 98], [0, 1, 2, 3, 5]) := by decide +kernel
theorem bf8_53 : am_fetch (am_mth 8) 53 = some (.lload 4, 2, [], [0, 1, 2, 3, 5]) := by decide +kernel
theorem bf8_55 : am_fetch (am_mth 8) 55 = some (.ldc2_w 48, 3, [0, 18446744073709551615, 536], [0, 1, 2, 3, 4, 5]) := by decide +kernel
theorem bf8_58 : am_fetch (am_mth 8) 58 = some (.lxor, 1, [], [0, 1, 2, 3, 4, 5]) := by decide +kernel
theorem bf8_59 : am_fetch (am_mth 8) 59 = some (.land, 1, [], [0, 1, 2, 3, 4, 5]) := by decide +kernel
theorem bf8_60 : am_fetch (am_mth 8) 60 = some (.putfield 50, 3, [0, 5, 3, 98], [0, 1, 2, 3, 4, 5]) := by decide +kernel
theorem bf8_63 : am_fetch (am_mth 8) 63 = some (.return_, 1, [], [0, 1, 2, 3, 4, 5]) := by decide +kernel
theorem bk8_0 {w : am_Wd} {l0 : Nat} {l1 : Int32} {l2 : Int32} {l3 : Int32} : am_run 8 0 [some (.ref l0), some (.int l1), some (.int l2), some (.int l3), none, none] [] w = if l2 = nI 0 then am_run 8 20 [some (.ref l0), none, none, some (.int l3), some (.long (bj_lshl (lN 1) l1)), none] [.ref l0] w else am_run 8 10 [some (.ref l0), none, none, some (.int l3), some (.long (bj_lshl (lN 1) l1)), none] [.ref l0] w := by
  refine (bu (ls'' := [some (.ref l0), some (.int l1), some (.int l2), some (.int l3), none, none]) (st' := [.long (lN 1)]) bf8_0 bf8_1 rfl rfl).trans ?_
  refine (bu (ls'' := [some (.ref l0), none, some (.int l2), some (.int l3), none, none]) (st' := [.int l1, .long (lN 1)]) bf8_1 bf8_2 rfl rfl).trans ?_
  refine (bu (ls'' := [some (.ref l0), none, some (.int l2), some (.int l3), none, none]) (st' := [.long (bj_lshl (lN 1) l1)]) bf8_2 bf8_3 rfl rfl).trans ?_
  refine (bu (ls'' := [some (.ref l0), none, some (.int l2), some (.int l3), some (.long (bj_lshl (lN 1) l1)), none]) (st' := []) bf8_3 bf8_5 rfl rfl).trans ?_
  refine (bu (ls'' := [some (.ref l0), none, some (.int l2), some (.int l3), some (.long (bj_lshl (lN 1) l1)), none]) (st' := [.ref l0]) bf8_5 bf8_6 rfl rfl).trans ?_
  refine (bu (ls'' := [some (.ref l0), none, none, some (.int l3), some (.long (bj_lshl (lN 1) l1)), none]) (st' := [.int l2, .ref l0]) bf8_6 bf8_7 rfl rfl).trans ?_
  exact bifc bf8_7 rfl bf8_20 bf8_10 rfl rfl rfl
theorem bk8_20 {w : am_Wd} {l0 : Nat} {l3 : Int32} {l4 : Int64} {s0 : Nat} : am_run 8 20 [some (.ref l0), none, none, some (.int l3), some (.long l4), none] [.ref s0] w = (am_gf w l0 5 2).bind fun v => am_run 8 24 [some (.ref l0), none, none, some (.int l3), some (.long l4), none] (v :: [.ref s0]) w := by
  refine (bu (ls'' := [some (.ref l0), none, none, some (.int l3), some (.long l4), none]) (st' := [.ref l0, .ref s0]) bf8_20 bf8_21 rfl rfl).trans ?_
  exact bh bf8_21 bf8_24 rfl (fun _ _ => am_ge_rf w) rfl
theorem bk8_10 {w : am_Wd} {l0 : Nat} {l3 : Int32} {l4 : Int64} {s0 : Nat} : am_run 8 10 [some (.ref l0), none, none, some (.int l3), some (.long l4), none] [.ref s0] w = (am_gf w l0 5 2).bind fun v => am_run 8 14 [some (.ref l0), none, none, some (.int l3), some (.long l4), none] (v :: [.ref s0]) w := by
  refine (bu (ls'' := [some (.ref l0), none, none, some (.int l3), some (.long l4), none]) (st' := [.ref l0, .ref s0]) bf8_10 bf8_11 rfl rfl).trans ?_
  exact bh bf8_11 bf8_14 rfl (fun _ _ => am_ge_rf w) rfl
theorem bk8_24 {w : am_Wd} {l0 : Nat} {l3 : Int32} {l4 : Int64} {s0 : Int64} {s1 : Nat} : am_run 8 24 [some (.ref l0), none, none, some (.int l3), some (.long l4), none] [.long s0, .ref s1] w = am_run 8 31 [some (.ref l0), none, none, some (.int l3), some (.long l4), none] [.long (s0 &&& (l4 ^^^ (lN 18446744073709551615))), .ref s1] w := by
  refine (bu (ls'' := [some (.ref l0), none, none, some (.int l3), some (.long l4), none]) (st' := [.long l4, .long s0, .ref s1]) bf8_24 bf8_26 rfl rfl).trans ?_
  refine (bu (ls'' := [some (.ref l0), none, none, some (.int l3), some (.long l4), none]) (st' := [.long (lN 18446744073709551615), .long l4, .long s0, .ref s1]) bf8_26 bf8_29 rfl rfl).trans ?_
  refine (bu (ls'' := [some (.ref l0), none, none, some (.int l3), some (.long l4), none]) (st' := [.long (l4 ^^^ (lN 18446744073709551615)), .long s0, .ref s1]) bf8_29 bf8_30 rfl rfl).trans ?_
  refine (bu (ls'' := [some (.ref l0), none, none, some (.int l3), some (.long l4), none]) (st' := [.long (s0 &&& (l4 ^^^ (lN 18446744073709551615))), .ref s1]) bf8_30 bf8_31 rfl rfl).trans ?_
  rfl
theorem bk8_14 {w : am_Wd} {l0 : Nat} {l3 : Int32} {l4 : Int64} {s0 : Int64} {s1 : Nat} : am_run 8 14 [some (.ref l0), none, none, some (.int l3), some (.long l4), none] [.long s0, .ref s1] w = am_run 8 31 [some (.ref l0), none, none, some (.int l3), some (.long l4), none] [.long (s0 ||| l4), .ref s1] w := by
  refine (bu (ls'' := [some (.ref l0), none, none, some (.int l3), some (.long l4), none]) (st' := [.long l4, .long s0, .ref s1]) bf8_14 bf8_16 rfl rfl).trans ?_
  refine (bu (ls'' := [some (.ref l0), none, none, some (.int l3), some (.long l4), none]) (st' := [.long (s0 ||| l4), .ref s1]) bf8_16 bf8_17 rfl rfl).trans ?_
  refine (bu (ls'' := [some (.ref l0), none, none, some (.int l3), some (.long l4), none]) (st' := [.long (s0 ||| l4), .ref s1]) bf8_17 bf8_31 rfl rfl).trans ?_
  rfl
theorem bk8_31 {w : am_Wd} {l0 : Nat} {l3 : Int32} {l4 : Int64} {s0 : Int64} {s1 : Nat} : am_run 8 31 [some (.ref l0), none, none, some (.int l3), some (.long l4), none] [.long s0, .ref s1] w = (am_pf w s1 5 2 (.long s0)).bind fun w' => am_run 8 34 [some (.ref l0), none, none, some (.int l3), some (.long l4), none] [] w' := by
  exact bh bf8_31 bf8_34 rfl (bge_pf) rfl
theorem bk8_34 {w : am_Wd} {l0 : Nat} {l3 : Int32} {l4 : Int64} : am_run 8 34 [some (.ref l0), none, none, some (.int l3), some (.long l4), none] [] w = if l3 = nI 0 then am_run 8 49 [some (.ref l0), none, none, none, some (.long l4), none] [.ref l0] w else am_run 8 39 [some (.ref l0), none, none, none, some (.long l4), none] [.ref l0] w := by
  refine (bu (ls'' := [some (.ref l0), none, none, some (.int l3), some (.long l4), none]) (st' := [.ref l0]) bf8_34 bf8_35 rfl rfl).trans ?_
  refine (bu (ls'' := [some (.ref l0), none, none, none, some (.long l4), none]) (st' := [.int l3, .ref l0]) bf8_35 bf8_36 rfl rfl).trans ?_
  exact bifc bf8_36 rfl bf8_49 bf8_39 rfl rfl rfl
theorem bk8_49 {w : am_Wd} {l0 : Nat} {l4 : Int64} {s0 : Nat} : am_run 8 49 [some (.ref l0), none, none, none, some (.long l4), none] [.ref s0] w = (am_gf w l0 5 3).bind fun v => am_run 8 53 [none, none, none, none, some (.long l4), none] (v :: [.ref s0]) w := by
  refine (bu (ls'' := [none, none, none, none, some (.long l4), none]) (st' := [.ref l0, .ref s0]) bf8_49 bf8_50 rfl rfl).trans ?_
  exact bh bf8_50 bf8_53 rfl (fun _ _ => am_ge_rf w) rfl
theorem bk8_39 {w : am_Wd} {l0 : Nat} {l4 : Int64} {s0 : Nat} : am_run 8 39 [some (.ref l0), none, none, none, some (.long l4), none] [.ref s0] w = (am_gf w l0 5 3).bind fun v => am_run 8 43 [none, none, none, none, some (.long l4), none] (v :: [.ref s0]) w := by
  refine (bu (ls'' := [none, none, none, none, some (.long l4), none]) (st' := [.ref l0, .ref s0]) bf8_39 bf8_40 rfl rfl).trans ?_
  exact bh bf8_40 bf8_43 rfl (fun _ _ => am_ge_rf w) rfl
theorem bk8_53 {w : am_Wd} {l4 : Int64} {s0 : Int64} {s1 : Nat} : am_run 8 53 [none, none, none, none, some (.long l4), none] [.long s0, .ref s1] w = am_run 8 60 [none, none, none, none, none, none] [.long (s0 &&& (l4 ^^^ (lN 18446744073709551615))), .ref s1] w := by
  refine (bu (ls'' := [none, none, none, none, none, none]) (st' := [.long l4, .long s0, .ref s1]) bf8_53 bf8_55 rfl rfl).trans ?_
  refine (bu (ls'' := [none, none, none, none, none, none]) (st' := [.long (lN 18446744073709551615), .long l4, .long s0, .ref s1]) bf8_55 bf8_58 rfl rfl).trans ?_
  refine (bu (ls'' := [none, none, none, none, none, none]) (st' := [.long (l4 ^^^ (lN 18446744073709551615)), .long s0, .ref s1]) bf8_58 bf8_59 rfl rfl).trans ?_
  refine (bu (ls'' := [none, none, none, none, none, none]) (st' := [.long (s0 &&& (l4 ^^^ (lN 18446744073709551615))), .ref s1]) bf8_59 bf8_60 rfl rfl).trans ?_
  rfl
theorem bk8_43 {w : am_Wd} {l4 : Int64} {s0 : Int64} {s1 : Nat} : am_run 8 43 [none, none, none, none, some (.long l4), none] [.long s0, .ref s1] w = am_run 8 60 [none, none, none, none, none, none] [.long (s0 ||| l4), .ref s1] w := by
  refine (bu (ls'' := [none, none, none, none, none, none]) (st' := [.long l4, .long s0, .ref s1]) bf8_43 bf8_45 rfl rfl).trans ?_
  refine (bu (ls'' := [none, none, none, none, none, none]) (st' := [.long (s0 ||| l4), .ref s1]) bf8_45 bf8_46 rfl rfl).trans ?_
  refine (bu (ls'' := [none, none, none, none, none, none]) (st' := [.long (s0 ||| l4), .ref s1]) bf8_46 bf8_60 rfl rfl).trans ?_
  rfl
theorem bk8_60 {w : am_Wd} {s0 : Int64} {s1 : Nat} : am_run 8 60 [none, none, none, none, none, none] [.long s0, .ref s1] w = (am_pf w s1 5 3 (.long s0)).bind fun w' => am_run 8 63 [none, none, none, none, none, none] [] w' := by
  exact bh bf8_60 bf8_63 rfl (bge_pf) rfl
theorem bk8_63 {w : am_Wd}  : am_run 8 63 [none, none, none, none, none, none] [] w = some (.inl none, w) := by
  exact am_e2 bf8_63 rfl (am_ge_rf w)
theorem bf9_0 : am_fetch (am_mth 9) 0 = some (.iload_n 0, 1, [], []) := by decide +kernel
theorem bf9_1 : am_fetch (am_mth 9) 1 = some (.iload_n 1, 1, [], [0]) := by decide +kernel
theorem bf9_2 : am_fetch (am_mth 9) 2 = some (.iushr, 1, [], [0, 1]) := by decide +kernel
theorem bf9_3 : am_fetch (am_mth 9) 3 = some (.iconst 1, 1, [], [0, 1]) := by decide +kernel
theorem bf9_4 : am_fetch (am_mth 9) 4 = some (.iand, 1, [], [0, 1]) := by decide +kernel
theorem bf9_5 : am_fetch (am_mth 9) 5 = some (.ifCond .eq 7, 3, [], [0, 1]) := by decide +kernel
theorem bf9_8 : am_fetch (am_mth 9) 8 = some (.iconst 1, 1, [], [0, 1]) := by decide +kernel
theorem bf9_9 : am_fetch (am_mth 9) 9 = some (.goto 4, 3, [], [0, 1]) := by decide +kernel
theorem bf9_12 : am_fetch (am_mth 9) 12 = some (.iconst 0, 1, [], [0, 1]) := by decide +kernel
theorem bf9_13 : am_fetch (am_mth 9) 13 = some (.ireturn, 1, [1], [0, 1]) := by decide +kernel
theorem bk9_0 {w : am_Wd} {l0 : Int32} {l1 : Int32} : am_run 9 0 [some (.int l0), some (.int l1)] [] w = if ((bj_iushr l0 l1) &&& (nI 1)) = nI 0 then am_run 9 12 [none, none] [] w else am_run 9 8 [none, none] [] w := by
  refine (bu (ls'' := [none, some (.int l1)]) (st' := [.int l0]) bf9_0 bf9_1 rfl rfl).trans ?_
  refine (bu (ls'' := [none, none]) (st' := [.int l1, .int l0]) bf9_1 bf9_2 rfl rfl).trans ?_
  refine (bu (ls'' := [none, none]) (st' := [.int (bj_iushr l0 l1)]) bf9_2 bf9_3 rfl rfl).trans ?_
  refine (bu (ls'' := [none, none]) (st' := [.int (nI 1), .int (bj_iushr l0 l1)]) bf9_3 bf9_4 rfl rfl).trans ?_
  refine (bu (ls'' := [none, none]) (st' := [.int ((bj_iushr l0 l1) &&& (nI 1))]) bf9_4 bf9_5 rfl rfl).trans ?_
  exact bifc bf9_5 rfl bf9_12 bf9_8 rfl rfl rfl
theorem bk9_12 {w : am_Wd}  : am_run 9 12 [none, none] [] w = am_run 9 13 [none, none] [.int (nI 0)] w := by
  refine (bu (ls'' := [none, none]) (st' := [.int (nI 0)]) bf9_12 bf9_13 rfl rfl).trans ?_
  rfl
theorem bk9_8 {w : am_Wd}  : am_run 9 8 [none, none] [] w = am_run 9 13 [none, none] [.int (nI 1)] w := by
  refine (bu (ls'' := [none, none]) (st' := [.int (nI 1)]) bf9_8 bf9_9 rfl rfl).trans ?_
  refine (bu (ls'' := [none, none]) (st' := [.int (nI 1)]) bf9_9 bf9_13 rfl rfl).trans ?_
  rfl
theorem bk9_13 {w : am_Wd} {s0 : Int32} (hb : am_ok (am_rt 1) (.int s0) = true) : am_run 9 13 [none, none] [.int s0] w = some (.inl (some (.int s0)), w) := by
  exact am_e2 bf9_13 (by unfold am_stp; exact if_pos ⟨by decide, hb⟩) (am_ge_rf w)
theorem bf10_0 : am_fetch (am_mth 10) 0 = some (.iconst 0, 1, [], [2, 3]) := by decide +kernel
theorem bf10_1 : am_fetch (am_mth 10) 1 = some (.istore_n 2, 1, [], [2, 3]) := by decide +kernel
theorem bf10_2 : am_fetch (am_mth 10) 2 = some (.iconst 0, 1, [], [3]) := by decide +kernel
theorem bf10_3 : am_fetch (am_mth 10) 3 = some (.istore_n 3, 1, [], [3]) := by decide +kernel
theorem bf10_4 : am_fetch (am_mth 10) 4 = some (.iload_n 3, 1, [], []) := by decide +kernel
theorem bf10_5 : am_fetch (am_mth 10) 5 = some (.bipush 72, 2, [], []) := by decide +kernel
theorem bf10_7 : am_fetch (am_mth 10) 7 = some (.if_icmp .ge 22, 3, [], []) := by decide +kernel
theorem bf10_10 : am_fetch (am_mth 10) 10 = some (.aload_n 0, 1, [], []) := by decide +kernel
theorem bf10_11 : am_fetch (am_mth 10) 11 = some (.getfield 11, 3, [0, 5, 0, 93], []) := by decide +kernel
theorem bf10_14 : am_fetch (am_mth 10) 14 = some (.iload_n 3, 1, [], []) := by decide +kernel
theorem bf10_15 : am_fetch (am_mth 10) 15 = some (.iaload, 1, [], []) := by decide +kernel
theorem bf10_16 : am_fetch (am_mth 10) 16 = some (.iload_n 1, 1, [], []) := by decide +kernel
theorem bf10_17 : am_fetch (am_mth 10) 17 = some (.if_icmp .ne 6, 3, [], []) := by decide +kernel
theorem bf10_20 : am_fetch (am_mth 10) 20 = some (.iinc 2 1, 3, [], []) := by decide +kernel
theorem bf10_23 : am_fetch (am_mth 10) 23 = some (.iinc 3 1, 3, [], []) := by decide +kernel
theorem bf10_26 : am_fetch (am_mth 10) 26 = some (.goto (-22), 3, [], []) := by decide +kernel
theorem bf10_29 : am_fetch (am_mth 10) 29 = some (.iload_n 2, 1, [], [0, 1, 3]) := by decide +kernel
theorem bf10_30 : am_fetch (am_mth 10) 30 = some (.ireturn, 1, [0], [0, 1, 2, 3]) := by decide +kernel
theorem bk10_0 {w : am_Wd} {l0 : Nat} {l1 : Int32} : am_run 10 0 [some (.ref l0), some (.int l1), none, none] [] w = am_run 10 4 [some (.ref l0), some (.int l1), some (.int (nI 0)), some (.int (nI 0))] [] w := by
  refine (bu (ls'' := [some (.ref l0), some (.int l1), none, none]) (st' := [.int (nI 0)]) bf10_0 bf10_1 rfl rfl).trans ?_
  refine (bu (ls'' := [some (.ref l0), some (.int l1), some (.int (nI 0)), none]) (st' := []) bf10_1 bf10_2 rfl rfl).trans ?_
  refine (bu (ls'' := [some (.ref l0), some (.int l1), some (.int (nI 0)), none]) (st' := [.int (nI 0)]) bf10_2 bf10_3 rfl rfl).trans ?_
  refine (bu (ls'' := [some (.ref l0), some (.int l1), some (.int (nI 0)), some (.int (nI 0))]) (st' := []) bf10_3 bf10_4 rfl rfl).trans ?_
  rfl
theorem bk10_4 {w : am_Wd} {l0 : Nat} {l1 : Int32} {l2 : Int32} {l3 : Int32} : am_run 10 4 [some (.ref l0), some (.int l1), some (.int l2), some (.int l3)] [] w = if (nI 72) ≤ l3 then am_run 10 29 [none, none, some (.int l2), none] [] w else am_run 10 10 [some (.ref l0), some (.int l1), some (.int l2), some (.int l3)] [] w := by
  refine (bu (ls'' := [some (.ref l0), some (.int l1), some (.int l2), some (.int l3)]) (st' := [.int l3]) bf10_4 bf10_5 rfl rfl).trans ?_
  refine (bu (ls'' := [some (.ref l0), some (.int l1), some (.int l2), some (.int l3)]) (st' := [.int (nI 72), .int l3]) bf10_5 bf10_7 rfl rfl).trans ?_
  exact bic bf10_7 rfl bf10_29 bf10_10 rfl rfl rfl
theorem bk10_29 {w : am_Wd} {l2 : Int32} : am_run 10 29 [none, none, some (.int l2), none] [] w = some (.inl (some (.int l2)), w) := by
  refine (bu (ls'' := [none, none, none, none]) (st' := [.int l2]) bf10_29 bf10_30 rfl rfl).trans ?_
  exact am_e2 bf10_30 rfl (am_ge_rf w)
theorem bk10_10 {w : am_Wd} {l0 : Nat} {l1 : Int32} {l2 : Int32} {l3 : Int32} : am_run 10 10 [some (.ref l0), some (.int l1), some (.int l2), some (.int l3)] [] w = (am_gf w l0 5 0).bind fun v => am_run 10 14 [some (.ref l0), some (.int l1), some (.int l2), some (.int l3)] (v :: []) w := by
  refine (bu (ls'' := [some (.ref l0), some (.int l1), some (.int l2), some (.int l3)]) (st' := [.ref l0]) bf10_10 bf10_11 rfl rfl).trans ?_
  exact bh bf10_11 bf10_14 rfl (fun _ _ => am_ge_rf w) rfl
theorem bk10_14 {w : am_Wd} {l0 : Nat} {l1 : Int32} {l2 : Int32} {l3 : Int32} {s0 : Nat} : am_run 10 14 [some (.ref l0), some (.int l1), some (.int l2), some (.int l3)] [.ref s0] w = (am_ri 0 w s0 l3).bind fun v => am_run 10 16 [some (.ref l0), some (.int l1), some (.int l2), some (.int l3)] (.int v :: []) w := by
  refine (bu (ls'' := [some (.ref l0), some (.int l1), some (.int l2), some (.int l3)]) (st' := [.int l3, .ref s0]) bf10_14 bf10_15 rfl rfl).trans ?_
  exact bh bf10_15 bf10_16 rfl (fun _ _ => am_ge_rf w) rfl
theorem bk10_16 {w : am_Wd} {l0 : Nat} {l1 : Int32} {l2 : Int32} {l3 : Int32} {s0 : Int32} : am_run 10 16 [some (.ref l0), some (.int l1), some (.int l2), some (.int l3)] [.int s0] w = if ¬ s0 = l1 then am_run 10 23 [some (.ref l0), some (.int l1), some (.int l2), some (.int l3)] [] w else am_run 10 20 [some (.ref l0), some (.int l1), some (.int l2), some (.int l3)] [] w := by
  refine (bu (ls'' := [some (.ref l0), some (.int l1), some (.int l2), some (.int l3)]) (st' := [.int l1, .int s0]) bf10_16 bf10_17 rfl rfl).trans ?_
  exact bic bf10_17 rfl bf10_23 bf10_20 rfl rfl rfl
theorem bk10_23 {w : am_Wd} {l0 : Nat} {l1 : Int32} {l2 : Int32} {l3 : Int32} : am_run 10 23 [some (.ref l0), some (.int l1), some (.int l2), some (.int l3)] [] w = am_run 10 4 [some (.ref l0), some (.int l1), some (.int l2), some (.int (l3 + (nI 1)))] [] w := by
  refine (bu (ls'' := [some (.ref l0), some (.int l1), some (.int l2), some (.int (l3 + (nI 1)))]) (st' := []) bf10_23 bf10_26 rfl rfl).trans ?_
  refine (bu (ls'' := [some (.ref l0), some (.int l1), some (.int l2), some (.int (l3 + (nI 1)))]) (st' := []) bf10_26 bf10_4 rfl rfl).trans ?_
  rfl
theorem bk10_20 {w : am_Wd} {l0 : Nat} {l1 : Int32} {l2 : Int32} {l3 : Int32} : am_run 10 20 [some (.ref l0), some (.int l1), some (.int l2), some (.int l3)] [] w = am_run 10 23 [some (.ref l0), some (.int l1), some (.int (l2 + (nI 1))), some (.int l3)] [] w := by
  refine (bu (ls'' := [some (.ref l0), some (.int l1), some (.int (l2 + (nI 1))), some (.int l3)]) (st' := []) bf10_20 bf10_23 rfl rfl).trans ?_
  rfl
theorem bf11_0 : am_fetch (am_mth 11) 0 = some (.lload_n 0, 1, [], [1]) := by decide +kernel
theorem bf11_1 : am_fetch (am_mth 11) 1 = some (.iload_n 2, 1, [], [0, 1]) := by decide +kernel
theorem bf11_2 : am_fetch (am_mth 11) 2 = some (.lushr, 1, [], [0, 1, 2]) := by decide +kernel
theorem bf11_3 : am_fetch (am_mth 11) 3 = some (.lconst 1, 1, [], [0, 1, 2]) := by decide +kernel
theorem bf11_4 : am_fetch (am_mth 11) 4 = some (.land, 1, [], [0, 1, 2]) := by decide +kernel
theorem bf11_5 : am_fetch (am_mth 11) 5 = some (.lconst 0, 1, [], [0, 1, 2]) := by decide +kernel
theorem bf11_6 : am_fetch (am_mth 11) 6 = some (.lcmp, 1, [], [0, 1, 2]) := by decide +kernel
theorem bf11_7 : am_fetch (am_mth 11) 7 = some (.ifCond .eq 7, 3, [], [0, 1, 2]) := by decide +kernel
theorem bf11_10 : am_fetch (am_mth 11) 10 = some (.iconst 1, 1, [], [0, 1, 2]) := by decide +kernel
theorem bf11_11 : am_fetch (am_mth 11) 11 = some (.goto 4, 3, [], [0, 1, 2]) := by decide +kernel
theorem bf11_14 : am_fetch (am_mth 11) 14 = some (.iconst 0, 1, [], [0, 1, 2]) := by decide +kernel
theorem bf11_15 : am_fetch (am_mth 11) 15 = some (.ireturn, 1, [1], [0, 1, 2]) := by decide +kernel
theorem bk11_0 {w : am_Wd} {l0 : Int64} {l2 : Int32} : am_run 11 0 [some (.long l0), none, some (.int l2)] [] w = if (lg_cmp ((bj_lushr l0 l2) &&& (lN 1)) (lN 0)) = nI 0 then am_run 11 14 [none, none, none] [] w else am_run 11 10 [none, none, none] [] w := by
  refine (bu (ls'' := [none, none, some (.int l2)]) (st' := [.long l0]) bf11_0 bf11_1 rfl rfl).trans ?_
  refine (bu (ls'' := [none, none, none]) (st' := [.int l2, .long l0]) bf11_1 bf11_2 rfl rfl).trans ?_
  refine (bu (ls'' := [none, none, none]) (st' := [.long (bj_lushr l0 l2)]) bf11_2 bf11_3 rfl rfl).trans ?_
  refine (bu (ls'' := [none, none, none]) (st' := [.long (lN 1), .long (bj_lushr l0 l2)]) bf11_3 bf11_4 rfl rfl).trans ?_
  refine (bu (ls'' := [none, none, none]) (st' := [.long ((bj_lushr l0 l2) &&& (lN 1))]) bf11_4 bf11_5 rfl rfl).trans ?_
  refine (bu (ls'' := [none, none, none]) (st' := [.long (lN 0), .long ((bj_lushr l0 l2) &&& (lN 1))]) bf11_5 bf11_6 rfl rfl).trans ?_
  refine (bu (ls'' := [none, none, none]) (st' := [.int (lg_cmp ((bj_lushr l0 l2) &&& (lN 1)) (lN 0))]) bf11_6 bf11_7 rfl rfl).trans ?_
  exact bifc bf11_7 rfl bf11_14 bf11_10 rfl rfl rfl
theorem bk11_14 {w : am_Wd}  : am_run 11 14 [none, none, none] [] w = am_run 11 15 [none, none, none] [.int (nI 0)] w := by
  refine (bu (ls'' := [none, none, none]) (st' := [.int (nI 0)]) bf11_14 bf11_15 rfl rfl).trans ?_
  rfl
theorem bk11_10 {w : am_Wd}  : am_run 11 10 [none, none, none] [] w = am_run 11 15 [none, none, none] [.int (nI 1)] w := by
  refine (bu (ls'' := [none, none, none]) (st' := [.int (nI 1)]) bf11_10 bf11_11 rfl rfl).trans ?_
  refine (bu (ls'' := [none, none, none]) (st' := [.int (nI 1)]) bf11_11 bf11_15 rfl rfl).trans ?_
  rfl
theorem bk11_15 {w : am_Wd} {s0 : Int32} (hb : am_ok (am_rt 1) (.int s0) = true) : am_run 11 15 [none, none, none] [.int s0] w = some (.inl (some (.int s0)), w) := by
  exact am_e2 bf11_15 (by unfold am_stp; exact if_pos ⟨by decide, hb⟩) (am_ge_rf w)
theorem bf12_0 : am_fetch (am_mth 12) 0 = some (.getstatic 9, 3, [1, 0, 574], []) := by decide +kernel
theorem bf12_3 : am_fetch (am_mth 12) 3 = some (.invokevirtual 15, 3, [1, 576, 577, 578, 579, 580, 0], []) := by decide +kernel
theorem bf12_6 : am_fetch (am_mth 12) 6 = some (.checkcast 16, 3, [1, 1, 582], []) := by decide +kernel
theorem bf12_9 : am_fetch (am_mth 12) 9 = some (.areturn, 1, [], []) := by decide +kernel
theorem bk12_0 {w : am_Wd}  {sg : Nat} (hg : w.2.2.2 0 = some sg) : am_run 12 0 [] [] w = am_run 12 3 [] (.ref sg :: []) w := by
  exact bu (ls'' := []) (st' := .ref sg :: []) bf12_0 bf12_3 (by show some _ = _; rw [hg]; rfl) rfl
-- bk12_3: clone
theorem bf13_0 : am_fetch (am_mth 13) 0 = some (.iload_n 0, 1, [], [2, 3]) := by decide +kernel
theorem bf13_1 : am_fetch (am_mth 13) 1 = some (.bipush 6, 2, [], [2, 3]) := by decide +kernel
theorem bf13_3 : am_fetch (am_mth 13) 3 = some (.idiv, 1, [], [2, 3]) := by decide +kernel
theorem bf13_4 : am_fetch (am_mth 13) 4 = some (.istore_n 2, 1, [], [2, 3]) := by decide +kernel
theorem bf13_5 : am_fetch (am_mth 13) 5 = some (.iload_n 0, 1, [], [3]) := by decide +kernel
theorem bf13_6 : am_fetch (am_mth 13) 6 = some (.bipush 6, 2, [], [3]) := by decide +kernel
theorem bf13_8 : am_fetch (am_mth 13) 8 = some (.irem, 1, [], [3]) := by decide +kernel
theorem bf13_9 : am_fetch (am_mth 13) 9 = some (.istore_n 3, 1, [], [3]) := by decide +kernel
theorem bf13_10 : am_fetch (am_mth 13) 10 = some (.iload_n 1, 1, [], []) := by decide +kernel
theorem bf13_11 : am_fetch (am_mth 13) 11 = some (.tableswitch 65 0 2 #[25, 38, 51], 25, [], [1]) := by decide +kernel
theorem bf13_36 : am_fetch (am_mth 13) 36 = some (.iload_n 2, 1, [], [1, 3]) := by decide +kernel
theorem bf13_37 : am_fetch (am_mth 13) 37 = some (.ifCond .le 10, 3, [], [1, 2, 3]) := by decide +kernel
theorem bf13_40 : am_fetch (am_mth 13) 40 = some (.iload_n 0, 1, [], [1, 2, 3]) := by decide +kernel
theorem bf13_41 : am_fetch (am_mth 13) 41 = some (.bipush 6, 2, [], [0, 1, 2, 3]) := by decide +kernel
theorem bf13_43 : am_fetch (am_mth 13) 43 = some (.isub, 1, [], [0, 1, 2, 3]) := by decide +kernel
theorem bf13_44 : am_fetch (am_mth 13) 44 = some (.goto 4, 3, [], [0, 1, 2, 3]) := by decide +kernel
theorem bf13_47 : am_fetch (am_mth 13) 47 = some (.iconst (-1), 1, [], [0, 1, 2, 3]) := by decide +kernel
theorem bf13_48 : am_fetch (am_mth 13) 48 = some (.ireturn, 1, [0], [0, 1, 2, 3]) := by decide +kernel
theorem bf13_49 : am_fetch (am_mth 13) 49 = some (.iload_n 3, 1, [], [1, 2]) := by decide +kernel
theorem bf13_50 : am_fetch (am_mth 13) 50 = some (.iconst 5, 1, [], [1, 2, 3]) := by decide +kernel
theorem bf13_51 : am_fetch (am_mth 13) 51 = some (.if_icmp .ge 9, 3, [], [1, 2, 3]) := by decide +kernel
theorem bf13_54 : am_fetch (am_mth 13) 54 = some (.iload_n 0, 1, [], [1, 2, 3]) := by decide +kernel
theorem bf13_55 : am_fetch (am_mth 13) 55 = some (.iconst 1, 1, [], [0, 1, 2, 3]) := by decide +kernel
theorem bf13_56 : am_fetch (am_mth 13) 56 = some (.iadd, 1, [], [0, 1, 2, 3]) := by decide +kernel
theorem bf13_57 : am_fetch (am_mth 13) 57 = some (.goto 4, 3, [], [0, 1, 2, 3]) := by decide +kernel
theorem bf13_60 : am_fetch (am_mth 13) 60 = some (.iconst (-1), 1, [], [0, 1, 2, 3]) := by decide +kernel
theorem bf13_61 : am_fetch (am_mth 13) 61 = some (.ireturn, 1, [0], [0, 1, 2, 3]) := by decide +kernel
theorem bf13_62 : am_fetch (am_mth 13) 62 = some (.iload_n 2, 1, [], [1, 3]) := by decide +kernel
theorem bf13_63 : am_fetch (am_mth 13) 63 = some (.iconst 5, 1, [], [1, 2, 3]) := by decide +kernel
theorem bf13_64 : am_fetch (am_mth 13) 64 = some (.if_icmp .ge 10, 3, [], [1, 2, 3]) := by decide +kernel
theorem bf13_67 : am_fetch (am_mth 13) 67 = some (.iload_n 0, 1, [], [1, 2, 3]) := by decide +kernel
theorem bf13_68 : am_fetch (am_mth 13) 68 = some (.bipush 6, 2, [], [0, 1, 2, 3]) := by decide +kernel
theorem bf13_70 : am_fetch (am_mth 13) 70 = some (.iadd, 1, [], [0, 1, 2, 3]) := by decide +kernel
theorem bf13_71 : am_fetch (am_mth 13) 71 = some (.goto 4, 3, [], [0, 1, 2, 3]) := by decide +kernel
theorem bf13_74 : am_fetch (am_mth 13) 74 = some (.iconst (-1), 1, [], [0, 1, 2, 3]) := by decide +kernel
theorem bf13_75 : am_fetch (am_mth 13) 75 = some (.ireturn, 1, [0], [0, 1, 2, 3]) := by decide +kernel
theorem bf13_76 : am_fetch (am_mth 13) 76 = some (.iload_n 3, 1, [], [1, 2]) := by decide +kernel
theorem bf13_77 : am_fetch (am_mth 13) 77 = some (.ifCond .le 9, 3, [], [1, 2, 3]) := by decide +kernel
theorem bf13_80 : am_fetch (am_mth 13) 80 = some (.iload_n 0, 1, [], [1, 2, 3]) := by decide +kernel
theorem bf13_81 : am_fetch (am_mth 13) 81 = some (.iconst 1, 1, [], [0, 1, 2, 3]) := by decide +kernel
theorem bf13_82 : am_fetch (am_mth 13) 82 = some (.isub, 1, [], [0, 1, 2, 3]) := by decide +kernel
theorem bf13_83 : am_fetch (am_mth 13) 83 = some (.goto 4, 3, [], [0, 1, 2, 3]) := by decide +kernel
theorem bf13_86 : am_fetch (am_mth 13) 86 = some (.iconst (-1), 1, [], [0, 1, 2, 3]) := by decide +kernel
theorem bf13_87 : am_fetch (am_mth 13) 87 = some (.ireturn, 1, [0], [0, 1, 2, 3]) := by decide +kernel
theorem bk13_0 {w : am_Wd} {l0 : Int32} {l1 : Int32} : am_run 13 0 [some (.int l0), some (.int l1), none, none] [] w = if l1 = (nI 0) then am_run 13 36 [some (.int l0), none, some (.int (l0 / (nI 6))), none] [] w else if l1 = (nI 1) then am_run 13 49 [some (.int l0), none, none, some (.int (bj_irem l0 (nI 6)))] [] w else if l1 = (nI 2) then am_run 13 62 [some (.int l0), none, some (.int (l0 / (nI 6))), none] [] w else am_run 13 76 [some (.int l0), none, none, some (.int (bj_irem l0 (nI 6)))] [] w := by
  refine (bu (ls'' := [some (.int l0), some (.int l1), none, none]) (st' := [.int l0]) bf13_0 bf13_1 rfl rfl).trans ?_
  refine (bu (ls'' := [some (.int l0), some (.int l1), none, none]) (st' := [.int (nI 6), .int l0]) bf13_1 bf13_3 rfl rfl).trans ?_
  refine (bu (ls'' := [some (.int l0), some (.int l1), none, none]) (st' := [.int (l0 / (nI 6))]) bf13_3 bf13_4 rfl rfl).trans ?_
  refine (bu (ls'' := [some (.int l0), some (.int l1), some (.int (l0 / (nI 6))), none]) (st' := []) bf13_4 bf13_5 rfl rfl).trans ?_
  refine (bu (ls'' := [some (.int l0), some (.int l1), some (.int (l0 / (nI 6))), none]) (st' := [.int l0]) bf13_5 bf13_6 rfl rfl).trans ?_
  refine (bu (ls'' := [some (.int l0), some (.int l1), some (.int (l0 / (nI 6))), none]) (st' := [.int (nI 6), .int l0]) bf13_6 bf13_8 rfl rfl).trans ?_
  refine (bu (ls'' := [some (.int l0), some (.int l1), some (.int (l0 / (nI 6))), none]) (st' := [.int (bj_irem l0 (nI 6))]) bf13_8 bf13_9 rfl rfl).trans ?_
  refine (bu (ls'' := [some (.int l0), some (.int l1), some (.int (l0 / (nI 6))), some (.int (bj_irem l0 (nI 6)))]) (st' := []) bf13_9 bf13_10 rfl rfl).trans ?_
  refine (bu (ls'' := [some (.int l0), none, some (.int (l0 / (nI 6))), some (.int (bj_irem l0 (nI 6)))]) (st' := [.int l1]) bf13_10 bf13_11 rfl rfl).trans ?_
  refine bsw (fun q => ?_) (fun q0 => ?_)
  · exact bu (ls' := [some (.int l0), none, some (.int (l0 / (nI 6))), some (.int (bj_irem l0 (nI 6)))]) (ls'' := [some (.int l0), none, some (.int (l0 / (nI 6))), none]) (st' := []) bf13_11 bf13_36 (by rw [q]; rfl) rfl
  refine bsw (fun q => ?_) (fun q1 => ?_)
  · exact bu (ls' := [some (.int l0), none, some (.int (l0 / (nI 6))), some (.int (bj_irem l0 (nI 6)))]) (ls'' := [some (.int l0), none, none, some (.int (bj_irem l0 (nI 6)))]) (st' := []) bf13_11 bf13_49 (by rw [q]; rfl) rfl
  refine bsw (fun q => ?_) (fun q2 => ?_)
  · exact bu (ls' := [some (.int l0), none, some (.int (l0 / (nI 6))), some (.int (bj_irem l0 (nI 6)))]) (ls'' := [some (.int l0), none, some (.int (l0 / (nI 6))), none]) (st' := []) bf13_11 bf13_62 (by rw [q]; rfl) rfl
  exact bsd bf13_11 bf13_76 rfl rfl (bcon (by rfl) q0 (bcon (by rfl) q1 (bcon (by rfl) q2 (bnil)))) rfl
theorem bk13_36 {w : am_Wd} {l0 : Int32} {l2 : Int32} : am_run 13 36 [some (.int l0), none, some (.int l2), none] [] w = if l2 ≤ nI 0 then am_run 13 47 [none, none, none, none] [] w else am_run 13 40 [some (.int l0), none, none, none] [] w := by
  refine (bu (ls'' := [some (.int l0), none, none, none]) (st' := [.int l2]) bf13_36 bf13_37 rfl rfl).trans ?_
  exact bifc bf13_37 rfl bf13_47 bf13_40 rfl rfl rfl
theorem bk13_49 {w : am_Wd} {l0 : Int32} {l3 : Int32} : am_run 13 49 [some (.int l0), none, none, some (.int l3)] [] w = if (nI 5) ≤ l3 then am_run 13 60 [none, none, none, none] [] w else am_run 13 54 [some (.int l0), none, none, none] [] w := by
  refine (bu (ls'' := [some (.int l0), none, none, none]) (st' := [.int l3]) bf13_49 bf13_50 rfl rfl).trans ?_
  refine (bu (ls'' := [some (.int l0), none, none, none]) (st' := [.int (nI 5), .int l3]) bf13_50 bf13_51 rfl rfl).trans ?_
  exact bic bf13_51 rfl bf13_60 bf13_54 rfl rfl rfl
theorem bk13_62 {w : am_Wd} {l0 : Int32} {l2 : Int32} : am_run 13 62 [some (.int l0), none, some (.int l2), none] [] w = if (nI 5) ≤ l2 then am_run 13 74 [none, none, none, none] [] w else am_run 13 67 [some (.int l0), none, none, none] [] w := by
  refine (bu (ls'' := [some (.int l0), none, none, none]) (st' := [.int l2]) bf13_62 bf13_63 rfl rfl).trans ?_
  refine (bu (ls'' := [some (.int l0), none, none, none]) (st' := [.int (nI 5), .int l2]) bf13_63 bf13_64 rfl rfl).trans ?_
  exact bic bf13_64 rfl bf13_74 bf13_67 rfl rfl rfl
theorem bk13_76 {w : am_Wd} {l0 : Int32} {l3 : Int32} : am_run 13 76 [some (.int l0), none, none, some (.int l3)] [] w = if l3 ≤ nI 0 then am_run 13 86 [none, none, none, none] [] w else am_run 13 80 [some (.int l0), none, none, none] [] w := by
  refine (bu (ls'' := [some (.int l0), none, none, none]) (st' := [.int l3]) bf13_76 bf13_77 rfl rfl).trans ?_
  exact bifc bf13_77 rfl bf13_86 bf13_80 rfl rfl rfl
theorem bk13_47 {w : am_Wd}  : am_run 13 47 [none, none, none, none] [] w = am_run 13 48 [none, none, none, none] [.int (-1 : Int32)] w := by
  refine (bu (ls'' := [none, none, none, none]) (st' := [.int (-1 : Int32)]) bf13_47 bf13_48 rfl rfl).trans ?_
  rfl
theorem bk13_40 {w : am_Wd} {l0 : Int32} : am_run 13 40 [some (.int l0), none, none, none] [] w = am_run 13 48 [none, none, none, none] [.int (l0 - (nI 6))] w := by
  refine (bu (ls'' := [none, none, none, none]) (st' := [.int l0]) bf13_40 bf13_41 rfl rfl).trans ?_
  refine (bu (ls'' := [none, none, none, none]) (st' := [.int (nI 6), .int l0]) bf13_41 bf13_43 rfl rfl).trans ?_
  refine (bu (ls'' := [none, none, none, none]) (st' := [.int (l0 - (nI 6))]) bf13_43 bf13_44 rfl rfl).trans ?_
  refine (bu (ls'' := [none, none, none, none]) (st' := [.int (l0 - (nI 6))]) bf13_44 bf13_48 rfl rfl).trans ?_
  rfl
theorem bk13_60 {w : am_Wd}  : am_run 13 60 [none, none, none, none] [] w = am_run 13 61 [none, none, none, none] [.int (-1 : Int32)] w := by
  refine (bu (ls'' := [none, none, none, none]) (st' := [.int (-1 : Int32)]) bf13_60 bf13_61 rfl rfl).trans ?_
  rfl
theorem bk13_54 {w : am_Wd} {l0 : Int32} : am_run 13 54 [some (.int l0), none, none, none] [] w = am_run 13 61 [none, none, none, none] [.int (l0 + (nI 1))] w := by
  refine (bu (ls'' := [none, none, none, none]) (st' := [.int l0]) bf13_54 bf13_55 rfl rfl).trans ?_
  refine (bu (ls'' := [none, none, none, none]) (st' := [.int (nI 1), .int l0]) bf13_55 bf13_56 rfl rfl).trans ?_
  refine (bu (ls'' := [none, none, none, none]) (st' := [.int (l0 + (nI 1))]) bf13_56 bf13_57 rfl rfl).trans ?_
  refine (bu (ls'' := [none, none, none, none]) (st' := [.int (l0 + (nI 1))]) bf13_57 bf13_61 rfl rfl).trans ?_
  rfl
theorem bk13_74 {w : am_Wd}  : am_run 13 74 [none, none, none, none] [] w = am_run 13 75 [none, none, none, none] [.int (-1 : Int32)] w := by
  refine (bu (ls'' := [none, none, none, none]) (st' := [.int (-1 : Int32)]) bf13_74 bf13_75 rfl rfl).trans ?_
  rfl
theorem bk13_67 {w : am_Wd} {l0 : Int32} : am_run 13 67 [some (.int l0), none, none, none] [] w = am_run 13 75 [none, none, none, none] [.int (l0 + (nI 6))] w := by
  refine (bu (ls'' := [none, none, none, none]) (st' := [.int l0]) bf13_67 bf13_68 rfl rfl).trans ?_
  refine (bu (ls'' := [none, none, none, none]) (st' := [.int (nI 6), .int l0]) bf13_68 bf13_70 rfl rfl).trans ?_
  refine (bu (ls'' := [none, none, none, none]) (st' := [.int (l0 + (nI 6))]) bf13_70 bf13_71 rfl rfl).trans ?_
  refine (bu (ls'' := [none, none, none, none]) (st' := [.int (l0 + (nI 6))]) bf13_71 bf13_75 rfl rfl).trans ?_
  rfl
theorem bk13_86 {w : am_Wd}  : am_run 13 86 [none, none, none, none] [] w = am_run 13 87 [none, none, none, none] [.int (-1 : Int32)] w := by
  refine (bu (ls'' := [none, none, none, none]) (st' := [.int (-1 : Int32)]) bf13_86 bf13_87 rfl rfl).trans ?_
  rfl
theorem bk13_80 {w : am_Wd} {l0 : Int32} : am_run 13 80 [some (.int l0), none, none, none] [] w = am_run 13 87 [none, none, none, none] [.int (l0 - (nI 1))] w := by
  refine (bu (ls'' := [none, none, none, none]) (st' := [.int l0]) bf13_80 bf13_81 rfl rfl).trans ?_
  refine (bu (ls'' := [none, none, none, none]) (st' := [.int (nI 1), .int l0]) bf13_81 bf13_82 rfl rfl).trans ?_
  refine (bu (ls'' := [none, none, none, none]) (st' := [.int (l0 - (nI 1))]) bf13_82 bf13_83 rfl rfl).trans ?_
  refine (bu (ls'' := [none, none, none, none]) (st' := [.int (l0 - (nI 1))]) bf13_83 bf13_87 rfl rfl).trans ?_
  rfl
theorem bk13_48 {w : am_Wd} {s0 : Int32} : am_run 13 48 [none, none, none, none] [.int s0] w = some (.inl (some (.int s0)), w) := by
  exact am_e2 bf13_48 rfl (am_ge_rf w)
theorem bk13_61 {w : am_Wd} {s0 : Int32} : am_run 13 61 [none, none, none, none] [.int s0] w = some (.inl (some (.int s0)), w) := by
  exact am_e2 bf13_61 rfl (am_ge_rf w)
theorem bk13_75 {w : am_Wd} {s0 : Int32} : am_run 13 75 [none, none, none, none] [.int s0] w = some (.inl (some (.int s0)), w) := by
  exact am_e2 bf13_75 rfl (am_ge_rf w)
theorem bk13_87 {w : am_Wd} {s0 : Int32} : am_run 13 87 [none, none, none, none] [.int s0] w = some (.inl (some (.int s0)), w) := by
  exact am_e2 bf13_87 rfl (am_ge_rf w)
theorem bf14_0 : am_fetch (am_mth 14) 0 = some (.iload_n 2, 1, [], [1]) := by decide +kernel
theorem bf14_1 : am_fetch (am_mth 14) 1 = some (.tableswitch 41 0 2 #[27, 32, 36], 27, [], [1, 2]) := by decide +kernel
theorem bf14_28 : am_fetch (am_mth 14) 28 = some (.lload_n 0, 1, [], [1, 2]) := by decide +kernel
theorem bf14_29 : am_fetch (am_mth 14) 29 = some (.bipush 6, 2, [], [0, 1, 2]) := by decide +kernel
theorem bf14_31 : am_fetch (am_mth 14) 31 = some (.lushr, 1, [], [0, 1, 2]) := by decide +kernel
theorem bf14_32 : am_fetch (am_mth 14) 32 = some (.lreturn, 1, [], [0, 1, 2]) := by decide +kernel
theorem bf14_33 : am_fetch (am_mth 14) 33 = some (.lload_n 0, 1, [], [1, 2]) := by decide +kernel
theorem bf14_34 : am_fetch (am_mth 14) 34 = some (.iconst 1, 1, [], [0, 1, 2]) := by decide +kernel
theorem bf14_35 : am_fetch (am_mth 14) 35 = some (.lshl, 1, [], [0, 1, 2]) := by decide +kernel
theorem bf14_36 : am_fetch (am_mth 14) 36 = some (.lreturn, 1, [], [0, 1, 2]) := by decide +kernel
theorem bf14_37 : am_fetch (am_mth 14) 37 = some (.lload_n 0, 1, [], [1, 2]) := by decide +kernel
theorem bf14_38 : am_fetch (am_mth 14) 38 = some (.bipush 6, 2, [], [0, 1, 2]) := by decide +kernel
theorem bf14_40 : am_fetch (am_mth 14) 40 = some (.lshl, 1, [], [0, 1, 2]) := by decide +kernel
theorem bf14_41 : am_fetch (am_mth 14) 41 = some (.lreturn, 1, [], [0, 1, 2]) := by decide +kernel
theorem bf14_42 : am_fetch (am_mth 14) 42 = some (.lload_n 0, 1, [], [1, 2]) := by decide +kernel
theorem bf14_43 : am_fetch (am_mth 14) 43 = some (.iconst 1, 1, [], [0, 1, 2]) := by decide +kernel
theorem bf14_44 : am_fetch (am_mth 14) 44 = some (.lushr, 1, [], [0, 1, 2]) := by decide +kernel
theorem bf14_45 : am_fetch (am_mth 14) 45 = some (.lreturn, 1, [], [0, 1, 2]) := by decide +kernel
theorem bk14_0 {w : am_Wd} {l0 : Int64} {l2 : Int32} : am_run 14 0 [some (.long l0), none, some (.int l2)] [] w = if l2 = (nI 0) then am_run 14 28 [some (.long l0), none, none] [] w else if l2 = (nI 1) then am_run 14 33 [some (.long l0), none, none] [] w else if l2 = (nI 2) then am_run 14 37 [some (.long l0), none, none] [] w else am_run 14 42 [some (.long l0), none, none] [] w := by
  refine (bu (ls'' := [some (.long l0), none, none]) (st' := [.int l2]) bf14_0 bf14_1 rfl rfl).trans ?_
  refine bsw (fun q => ?_) (fun q0 => ?_)
  · exact bu (ls' := [some (.long l0), none, none]) (ls'' := [some (.long l0), none, none]) (st' := []) bf14_1 bf14_28 (by rw [q]; rfl) rfl
  refine bsw (fun q => ?_) (fun q1 => ?_)
  · exact bu (ls' := [some (.long l0), none, none]) (ls'' := [some (.long l0), none, none]) (st' := []) bf14_1 bf14_33 (by rw [q]; rfl) rfl
  refine bsw (fun q => ?_) (fun q2 => ?_)
  · exact bu (ls' := [some (.long l0), none, none]) (ls'' := [some (.long l0), none, none]) (st' := []) bf14_1 bf14_37 (by rw [q]; rfl) rfl
  exact bsd bf14_1 bf14_42 rfl rfl (bcon (by rfl) q0 (bcon (by rfl) q1 (bcon (by rfl) q2 (bnil)))) rfl
theorem bk14_28 {w : am_Wd} {l0 : Int64} : am_run 14 28 [some (.long l0), none, none] [] w = some (.inl (some (.long (bj_lushr l0 (nI 6)))), w) := by
  refine (bu (ls'' := [none, none, none]) (st' := [.long l0]) bf14_28 bf14_29 rfl rfl).trans ?_
  refine (bu (ls'' := [none, none, none]) (st' := [.int (nI 6), .long l0]) bf14_29 bf14_31 rfl rfl).trans ?_
  refine (bu (ls'' := [none, none, none]) (st' := [.long (bj_lushr l0 (nI 6))]) bf14_31 bf14_32 rfl rfl).trans ?_
  exact am_e2 bf14_32 rfl (am_ge_rf w)
theorem bk14_33 {w : am_Wd} {l0 : Int64} : am_run 14 33 [some (.long l0), none, none] [] w = some (.inl (some (.long (bj_lshl l0 (nI 1)))), w) := by
  refine (bu (ls'' := [none, none, none]) (st' := [.long l0]) bf14_33 bf14_34 rfl rfl).trans ?_
  refine (bu (ls'' := [none, none, none]) (st' := [.int (nI 1), .long l0]) bf14_34 bf14_35 rfl rfl).trans ?_
  refine (bu (ls'' := [none, none, none]) (st' := [.long (bj_lshl l0 (nI 1))]) bf14_35 bf14_36 rfl rfl).trans ?_
  exact am_e2 bf14_36 rfl (am_ge_rf w)
theorem bk14_37 {w : am_Wd} {l0 : Int64} : am_run 14 37 [some (.long l0), none, none] [] w = some (.inl (some (.long (bj_lshl l0 (nI 6)))), w) := by
  refine (bu (ls'' := [none, none, none]) (st' := [.long l0]) bf14_37 bf14_38 rfl rfl).trans ?_
  refine (bu (ls'' := [none, none, none]) (st' := [.int (nI 6), .long l0]) bf14_38 bf14_40 rfl rfl).trans ?_
  refine (bu (ls'' := [none, none, none]) (st' := [.long (bj_lshl l0 (nI 6))]) bf14_40 bf14_41 rfl rfl).trans ?_
  exact am_e2 bf14_41 rfl (am_ge_rf w)
theorem bk14_42 {w : am_Wd} {l0 : Int64} : am_run 14 42 [some (.long l0), none, none] [] w = some (.inl (some (.long (bj_lushr l0 (nI 1)))), w) := by
  refine (bu (ls'' := [none, none, none]) (st' := [.long l0]) bf14_42 bf14_43 rfl rfl).trans ?_
  refine (bu (ls'' := [none, none, none]) (st' := [.int (nI 1), .long l0]) bf14_43 bf14_44 rfl rfl).trans ?_
  refine (bu (ls'' := [none, none, none]) (st' := [.long (bj_lushr l0 (nI 1))]) bf14_44 bf14_45 rfl rfl).trans ?_
  exact am_e2 bf14_45 rfl (am_ge_rf w)
theorem bf15_0 : am_fetch (am_mth 15) 0 = some (.iload_n 0, 1, [], []) := by decide +kernel
theorem bf15_1 : am_fetch (am_mth 15) 1 = some (.iconst 3, 1, [], [0]) := by decide +kernel
theorem bf15_2 : am_fetch (am_mth 15) 2 = some (.iadd, 1, [], [0]) := by decide +kernel
theorem bf15_3 : am_fetch (am_mth 15) 3 = some (.iload_n 1, 1, [], [0]) := by decide +kernel
theorem bf15_4 : am_fetch (am_mth 15) 4 = some (.iadd, 1, [], [0, 1]) := by decide +kernel
theorem bf15_5 : am_fetch (am_mth 15) 5 = some (.iconst 3, 1, [], [0, 1]) := by decide +kernel
theorem bf15_6 : am_fetch (am_mth 15) 6 = some (.iand, 1, [], [0, 1]) := by decide +kernel
theorem bf15_7 : am_fetch (am_mth 15) 7 = some (.ireturn, 1, [0], [0, 1]) := by decide +kernel
theorem bk15_0 {w : am_Wd} {l0 : Int32} {l1 : Int32} : am_run 15 0 [some (.int l0), some (.int l1)] [] w = some (.inl (some (.int (((l0 + (nI 3)) + l1) &&& (nI 3)))), w) := by
  refine (bu (ls'' := [none, some (.int l1)]) (st' := [.int l0]) bf15_0 bf15_1 rfl rfl).trans ?_
  refine (bu (ls'' := [none, some (.int l1)]) (st' := [.int (nI 3), .int l0]) bf15_1 bf15_2 rfl rfl).trans ?_
  refine (bu (ls'' := [none, some (.int l1)]) (st' := [.int (l0 + (nI 3))]) bf15_2 bf15_3 rfl rfl).trans ?_
  refine (bu (ls'' := [none, none]) (st' := [.int l1, .int (l0 + (nI 3))]) bf15_3 bf15_4 rfl rfl).trans ?_
  refine (bu (ls'' := [none, none]) (st' := [.int ((l0 + (nI 3)) + l1)]) bf15_4 bf15_5 rfl rfl).trans ?_
  refine (bu (ls'' := [none, none]) (st' := [.int (nI 3), .int ((l0 + (nI 3)) + l1)]) bf15_5 bf15_6 rfl rfl).trans ?_
  refine (bu (ls'' := [none, none]) (st' := [.int (((l0 + (nI 3)) + l1) &&& (nI 3))]) bf15_6 bf15_7 rfl rfl).trans ?_
  exact am_e2 bf15_7 rfl (am_ge_rf w)
theorem bf16_0 : am_fetch (am_mth 16) 0 = some (.iload_n 0, 1, [], [2, 3]) := by decide +kernel
theorem bf16_1 : am_fetch (am_mth 16) 1 = some (.bipush 6, 2, [], [2, 3]) := by decide +kernel
theorem bf16_3 : am_fetch (am_mth 16) 3 = some (.idiv, 1, [], [2, 3]) := by decide +kernel
theorem bf16_4 : am_fetch (am_mth 16) 4 = some (.iload_n 1, 1, [], [2, 3]) := by decide +kernel
theorem bf16_5 : am_fetch (am_mth 16) 5 = some (.bipush 6, 2, [], [2, 3]) := by decide +kernel
theorem bf16_7 : am_fetch (am_mth 16) 7 = some (.idiv, 1, [], [2, 3]) := by decide +kernel
theorem bf16_8 : am_fetch (am_mth 16) 8 = some (.isub, 1, [], [2, 3]) := by decide +kernel
theorem bf16_9 : am_fetch (am_mth 16) 9 = some (.invokestatic 20, 3, [3, 767, 768, 59, 769], [2, 3]) := by decide +kernel
theorem bf16_12 : am_fetch (am_mth 16) 12 = some (.istore_n 2, 1, [], [2, 3]) := by decide +kernel
theorem bf16_13 : am_fetch (am_mth 16) 13 = some (.iload_n 0, 1, [], [3]) := by decide +kernel
theorem bf16_14 : am_fetch (am_mth 16) 14 = some (.bipush 6, 2, [], [0, 3]) := by decide +kernel
theorem bf16_16 : am_fetch (am_mth 16) 16 = some (.irem, 1, [], [0, 3]) := by decide +kernel
theorem bf16_17 : am_fetch (am_mth 16) 17 = some (.iload_n 1, 1, [], [0, 3]) := by decide +kernel
theorem bf16_18 : am_fetch (am_mth 16) 18 = some (.bipush 6, 2, [], [0, 1, 3]) := by decide +kernel
theorem bf16_20 : am_fetch (am_mth 16) 20 = some (.irem, 1, [], [0, 1, 3]) := by decide +kernel
theorem bf16_21 : am_fetch (am_mth 16) 21 = some (.isub, 1, [], [0, 1, 3]) := by decide +kernel
theorem bf16_22 : am_fetch (am_mth 16) 22 = some (.invokestatic 20, 3, [3, 767, 768, 59, 769], [0, 1, 3]) := by decide +kernel
theorem bf16_25 : am_fetch (am_mth 16) 25 = some (.istore_n 3, 1, [], [0, 1, 3]) := by decide +kernel
theorem bf16_26 : am_fetch (am_mth 16) 26 = some (.iload_n 2, 1, [], [0, 1]) := by decide +kernel
theorem bf16_27 : am_fetch (am_mth 16) 27 = some (.iload_n 3, 1, [], [0, 1, 2]) := by decide +kernel
theorem bf16_28 : am_fetch (am_mth 16) 28 = some (.iadd, 1, [], [0, 1, 2, 3]) := by decide +kernel
theorem bf16_29 : am_fetch (am_mth 16) 29 = some (.iconst 2, 1, [], [0, 1, 2, 3]) := by decide +kernel
theorem bf16_30 : am_fetch (am_mth 16) 30 = some (.if_icmp .gt 7, 3, [], [0, 1, 2, 3]) := by decide +kernel
theorem bf16_33 : am_fetch (am_mth 16) 33 = some (.iconst 1, 1, [], [0, 1, 2, 3]) := by decide +kernel
theorem bf16_34 : am_fetch (am_mth 16) 34 = some (.goto 4, 3, [], [0, 1, 2, 3]) := by decide +kernel
theorem bf16_37 : am_fetch (am_mth 16) 37 = some (.iconst 0, 1, [], [0, 1, 2, 3]) := by decide +kernel
theorem bf16_38 : am_fetch (am_mth 16) 38 = some (.ireturn, 1, [1], [0, 1, 2, 3]) := by decide +kernel
theorem bk16_0 {w : am_Wd} {l0 : Int32} {l1 : Int32} : am_run 16 0 [some (.int l0), some (.int l1), none, none] [] w = if (nI 2) < ((bj_abs ((l0 / (nI 6)) - (l1 / (nI 6)))) + (bj_abs ((bj_irem l0 (nI 6)) - (bj_irem l1 (nI 6))))) then am_run 16 37 [none, none, none, none] [] w else am_run 16 33 [none, none, none, none] [] w := by
  refine (bu (ls'' := [some (.int l0), some (.int l1), none, none]) (st' := [.int l0]) bf16_0 bf16_1 rfl rfl).trans ?_
  refine (bu (ls'' := [some (.int l0), some (.int l1), none, none]) (st' := [.int (nI 6), .int l0]) bf16_1 bf16_3 rfl rfl).trans ?_
  refine (bu (ls'' := [some (.int l0), some (.int l1), none, none]) (st' := [.int (l0 / (nI 6))]) bf16_3 bf16_4 rfl rfl).trans ?_
  refine (bu (ls'' := [some (.int l0), some (.int l1), none, none]) (st' := [.int l1, .int (l0 / (nI 6))]) bf16_4 bf16_5 rfl rfl).trans ?_
  refine (bu (ls'' := [some (.int l0), some (.int l1), none, none]) (st' := [.int (nI 6), .int l1, .int (l0 / (nI 6))]) bf16_5 bf16_7 rfl rfl).trans ?_
  refine (bu (ls'' := [some (.int l0), some (.int l1), none, none]) (st' := [.int (l1 / (nI 6)), .int (l0 / (nI 6))]) bf16_7 bf16_8 rfl rfl).trans ?_
  refine (bu (ls'' := [some (.int l0), some (.int l1), none, none]) (st' := [.int ((l0 / (nI 6)) - (l1 / (nI 6)))]) bf16_8 bf16_9 rfl rfl).trans ?_
  refine (bu (ls'' := [some (.int l0), some (.int l1), none, none]) (st' := [.int (bj_abs ((l0 / (nI 6)) - (l1 / (nI 6))))]) bf16_9 bf16_12 rfl rfl).trans ?_
  refine (bu (ls'' := [some (.int l0), some (.int l1), some (.int (bj_abs ((l0 / (nI 6)) - (l1 / (nI 6))))), none]) (st' := []) bf16_12 bf16_13 rfl rfl).trans ?_
  refine (bu (ls'' := [none, some (.int l1), some (.int (bj_abs ((l0 / (nI 6)) - (l1 / (nI 6))))), none]) (st' := [.int l0]) bf16_13 bf16_14 rfl rfl).trans ?_
  refine (bu (ls'' := [none, some (.int l1), some (.int (bj_abs ((l0 / (nI 6)) - (l1 / (nI 6))))), none]) (st' := [.int (nI 6), .int l0]) bf16_14 bf16_16 rfl rfl).trans ?_
  refine (bu (ls'' := [none, some (.int l1), some (.int (bj_abs ((l0 / (nI 6)) - (l1 / (nI 6))))), none]) (st' := [.int (bj_irem l0 (nI 6))]) bf16_16 bf16_17 rfl rfl).trans ?_
  refine (bu (ls'' := [none, none, some (.int (bj_abs ((l0 / (nI 6)) - (l1 / (nI 6))))), none]) (st' := [.int l1, .int (bj_irem l0 (nI 6))]) bf16_17 bf16_18 rfl rfl).trans ?_
  refine (bu (ls'' := [none, none, some (.int (bj_abs ((l0 / (nI 6)) - (l1 / (nI 6))))), none]) (st' := [.int (nI 6), .int l1, .int (bj_irem l0 (nI 6))]) bf16_18 bf16_20 rfl rfl).trans ?_
  refine (bu (ls'' := [none, none, some (.int (bj_abs ((l0 / (nI 6)) - (l1 / (nI 6))))), none]) (st' := [.int (bj_irem l1 (nI 6)), .int (bj_irem l0 (nI 6))]) bf16_20 bf16_21 rfl rfl).trans ?_
  refine (bu (ls'' := [none, none, some (.int (bj_abs ((l0 / (nI 6)) - (l1 / (nI 6))))), none]) (st' := [.int ((bj_irem l0 (nI 6)) - (bj_irem l1 (nI 6)))]) bf16_21 bf16_22 rfl rfl).trans ?_
  refine (bu (ls'' := [none, none, some (.int (bj_abs ((l0 / (nI 6)) - (l1 / (nI 6))))), none]) (st' := [.int (bj_abs ((bj_irem l0 (nI 6)) - (bj_irem l1 (nI 6))))]) bf16_22 bf16_25 rfl rfl).trans ?_
  refine (bu (ls'' := [none, none, some (.int (bj_abs ((l0 / (nI 6)) - (l1 / (nI 6))))), some (.int (bj_abs ((bj_irem l0 (nI 6)) - (bj_irem l1 (nI 6)))))]) (st' := []) bf16_25 bf16_26 rfl rfl).trans ?_
  refine (bu (ls'' := [none, none, none, some (.int (bj_abs ((bj_irem l0 (nI 6)) - (bj_irem l1 (nI 6)))))]) (st' := [.int (bj_abs ((l0 / (nI 6)) - (l1 / (nI 6))))]) bf16_26 bf16_27 rfl rfl).trans ?_
  refine (bu (ls'' := [none, none, none, none]) (st' := [.int (bj_abs ((bj_irem l0 (nI 6)) - (bj_irem l1 (nI 6)))), .int (bj_abs ((l0 / (nI 6)) - (l1 / (nI 6))))]) bf16_27 bf16_28 rfl rfl).trans ?_
  refine (bu (ls'' := [none, none, none, none]) (st' := [.int ((bj_abs ((l0 / (nI 6)) - (l1 / (nI 6)))) + (bj_abs ((bj_irem l0 (nI 6)) - (bj_irem l1 (nI 6)))))]) bf16_28 bf16_29 rfl rfl).trans ?_
  refine (bu (ls'' := [none, none, none, none]) (st' := [.int (nI 2), .int ((bj_abs ((l0 / (nI 6)) - (l1 / (nI 6)))) + (bj_abs ((bj_irem l0 (nI 6)) - (bj_irem l1 (nI 6)))))]) bf16_29 bf16_30 rfl rfl).trans ?_
  exact bic bf16_30 rfl bf16_37 bf16_33 rfl rfl rfl
theorem bk16_37 {w : am_Wd}  : am_run 16 37 [none, none, none, none] [] w = am_run 16 38 [none, none, none, none] [.int (nI 0)] w := by
  refine (bu (ls'' := [none, none, none, none]) (st' := [.int (nI 0)]) bf16_37 bf16_38 rfl rfl).trans ?_
  rfl
theorem bk16_33 {w : am_Wd}  : am_run 16 33 [none, none, none, none] [] w = am_run 16 38 [none, none, none, none] [.int (nI 1)] w := by
  refine (bu (ls'' := [none, none, none, none]) (st' := [.int (nI 1)]) bf16_33 bf16_34 rfl rfl).trans ?_
  refine (bu (ls'' := [none, none, none, none]) (st' := [.int (nI 1)]) bf16_34 bf16_38 rfl rfl).trans ?_
  rfl
theorem bk16_38 {w : am_Wd} {s0 : Int32} (hb : am_ok (am_rt 1) (.int s0) = true) : am_run 16 38 [none, none, none, none] [.int s0] w = some (.inl (some (.int s0)), w) := by
  exact am_e2 bf16_38 (by unfold am_stp; exact if_pos ⟨by decide, hb⟩) (am_ge_rf w)
theorem bf17_0 : am_fetch (am_mth 17) 0 = some (.aload_n 0, 1, [], []) := by decide +kernel
theorem bf17_1 : am_fetch (am_mth 17) 1 = some (.getfield 29, 3, [0, 6, 3, 616], [0]) := by decide +kernel
theorem bf17_4 : am_fetch (am_mth 17) 4 = some (.iconst 4, 1, [], [0]) := by decide +kernel
theorem bf17_5 : am_fetch (am_mth 17) 5 = some (.idiv, 1, [], [0]) := by decide +kernel
theorem bf17_6 : am_fetch (am_mth 17) 6 = some (.ireturn, 1, [0], [0]) := by decide +kernel
theorem bk17_0 {w : am_Wd} {l0 : Nat} : am_run 17 0 [some (.ref l0)] [] w = (am_gf w l0 6 3).bind fun v => am_run 17 4 [none] (v :: []) w := by
  refine (bu (ls'' := [none]) (st' := [.ref l0]) bf17_0 bf17_1 rfl rfl).trans ?_
  exact bh bf17_1 bf17_4 rfl (fun _ _ => am_ge_rf w) rfl
theorem bk17_4 {w : am_Wd} {s0 : Int32} : am_run 17 4 [none] [.int s0] w = some (.inl (some (.int (s0 / (nI 4)))), w) := by
  refine (bu (ls'' := [none]) (st' := [.int (nI 4), .int s0]) bf17_4 bf17_5 rfl rfl).trans ?_
  refine (bu (ls'' := [none]) (st' := [.int (s0 / (nI 4))]) bf17_5 bf17_6 rfl rfl).trans ?_
  exact am_e2 bf17_6 rfl (am_ge_rf w)
theorem bf18_0 : am_fetch (am_mth 18) 0 = some (.aload_n 0, 1, [], []) := by decide +kernel
theorem bf18_1 : am_fetch (am_mth 18) 1 = some (.getfield 29, 3, [0, 6, 3, 616], [0]) := by decide +kernel
theorem bf18_4 : am_fetch (am_mth 18) 4 = some (.iconst 4, 1, [], [0]) := by decide +kernel
theorem bf18_5 : am_fetch (am_mth 18) 5 = some (.irem, 1, [], [0]) := by decide +kernel
theorem bf18_6 : am_fetch (am_mth 18) 6 = some (.ireturn, 1, [0], [0]) := by decide +kernel
theorem bk18_0 {w : am_Wd} {l0 : Nat} : am_run 18 0 [some (.ref l0)] [] w = (am_gf w l0 6 3).bind fun v => am_run 18 4 [none] (v :: []) w := by
  refine (bu (ls'' := [none]) (st' := [.ref l0]) bf18_0 bf18_1 rfl rfl).trans ?_
  exact bh bf18_1 bf18_4 rfl (fun _ _ => am_ge_rf w) rfl
theorem bk18_4 {w : am_Wd} {s0 : Int32} : am_run 18 4 [none] [.int s0] w = some (.inl (some (.int (bj_irem s0 (nI 4)))), w) := by
  refine (bu (ls'' := [none]) (st' := [.int (nI 4), .int s0]) bf18_4 bf18_5 rfl rfl).trans ?_
  refine (bu (ls'' := [none]) (st' := [.int (bj_irem s0 (nI 4))]) bf18_5 bf18_6 rfl rfl).trans ?_
  exact am_e2 bf18_6 rfl (am_ge_rf w)
theorem bf19_0 : am_fetch (am_mth 19) 0 = some (.iload_n 0, 1, [], []) := by decide +kernel
theorem bf19_1 : am_fetch (am_mth 19) 1 = some (.ifCond .ge 7, 3, [], []) := by decide +kernel
theorem bf19_4 : am_fetch (am_mth 19) 4 = some (.iload_n 0, 1, [], []) := by decide +kernel
theorem bf19_5 : am_fetch (am_mth 19) 5 = some (.goto 8, 3, [], [0]) := by decide +kernel
theorem bf19_8 : am_fetch (am_mth 19) 8 = some (.iconst 2, 1, [], []) := by decide +kernel
theorem bf19_9 : am_fetch (am_mth 19) 9 = some (.iload_n 0, 1, [], []) := by decide +kernel
theorem bf19_10 : am_fetch (am_mth 19) 10 = some (.imul, 1, [], [0]) := by decide +kernel
theorem bf19_11 : am_fetch (am_mth 19) 11 = some (.iconst 2, 1, [], [0]) := by decide +kernel
theorem bf19_12 : am_fetch (am_mth 19) 12 = some (.iadd, 1, [], [0]) := by decide +kernel
theorem bf19_13 : am_fetch (am_mth 19) 13 = some (.ireturn, 1, [0], [0]) := by decide +kernel
theorem bk19_0 {w : am_Wd} {l0 : Int32} : am_run 19 0 [some (.int l0)] [] w = if nI 0 ≤ l0 then am_run 19 8 [some (.int l0)] [] w else am_run 19 4 [some (.int l0)] [] w := by
  refine (bu (ls'' := [some (.int l0)]) (st' := [.int l0]) bf19_0 bf19_1 rfl rfl).trans ?_
  exact bifc bf19_1 rfl bf19_8 bf19_4 rfl rfl rfl
theorem bk19_8 {w : am_Wd} {l0 : Int32} : am_run 19 8 [some (.int l0)] [] w = am_run 19 13 [none] [.int (((nI 2) * l0) + (nI 2))] w := by
  refine (bu (ls'' := [some (.int l0)]) (st' := [.int (nI 2)]) bf19_8 bf19_9 rfl rfl).trans ?_
  refine (bu (ls'' := [none]) (st' := [.int l0, .int (nI 2)]) bf19_9 bf19_10 rfl rfl).trans ?_
  refine (bu (ls'' := [none]) (st' := [.int ((nI 2) * l0)]) bf19_10 bf19_11 rfl rfl).trans ?_
  refine (bu (ls'' := [none]) (st' := [.int (nI 2), .int ((nI 2) * l0)]) bf19_11 bf19_12 rfl rfl).trans ?_
  refine (bu (ls'' := [none]) (st' := [.int (((nI 2) * l0) + (nI 2))]) bf19_12 bf19_13 rfl rfl).trans ?_
  rfl
theorem bk19_4 {w : am_Wd} {l0 : Int32} : am_run 19 4 [some (.int l0)] [] w = am_run 19 13 [none] [.int l0] w := by
  refine (bu (ls'' := [none]) (st' := [.int l0]) bf19_4 bf19_5 rfl rfl).trans ?_
  refine (bu (ls'' := [none]) (st' := [.int l0]) bf19_5 bf19_13 rfl rfl).trans ?_
  rfl
theorem bk19_13 {w : am_Wd} {s0 : Int32} : am_run 19 13 [none] [.int s0] w = some (.inl (some (.int s0)), w) := by
  exact am_e2 bf19_13 rfl (am_ge_rf w)
theorem bf20_0 : am_fetch (am_mth 20) 0 = some (.lconst 1, 1, [], [4, 5]) := by decide +kernel
theorem bf20_1 : am_fetch (am_mth 20) 1 = some (.iload_n 1, 1, [], [4, 5]) := by decide +kernel
theorem bf20_2 : am_fetch (am_mth 20) 2 = some (.lshl, 1, [], [1, 4, 5]) := by decide +kernel
theorem bf20_3 : am_fetch (am_mth 20) 3 = some (.lstore 4, 2, [], [1, 4, 5]) := by decide +kernel
theorem bf20_5 : am_fetch (am_mth 20) 5 = some (.aload_n 0, 1, [], [1, 5]) := by decide +kernel
theorem bf20_6 : am_fetch (am_mth 20) 6 = some (.getfield 9, 3, [0, 7, 0, 583], [1, 5]) := by decide +kernel
theorem bf20_9 : am_fetch (am_mth 20) 9 = some (.iload_n 2, 1, [], [1, 5]) := by decide +kernel
theorem bf20_10 : am_fetch (am_mth 20) 10 = some (.iload_n 3, 1, [], [1, 5]) := by decide +kernel
theorem bf20_11 : am_fetch (am_mth 20) 11 = some (.ifCond .eq 19, 3, [], [1, 5]) := by decide +kernel
theorem bf20_14 : am_fetch (am_mth 20) 14 = some (.aload_n 0, 1, [], [1, 5]) := by decide +kernel
theorem bf20_15 : am_fetch (am_mth 20) 15 = some (.getfield 9, 3, [0, 7, 0, 583], [1, 5]) := by decide +kernel
theorem bf20_18 : am_fetch (am_mth 20) 18 = some (.iload_n 2, 1, [], [1, 5]) := by decide +kernel
theorem bf20_19 : am_fetch (am_mth 20) 19 = some (.laload, 1, [], [1, 5]) := by decide +kernel
theorem bf20_20 : am_fetch (am_mth 20) 20 = some (.lload 4, 2, [], [1, 5]) := by decide +kernel
theorem bf20_22 : am_fetch (am_mth 20) 22 = some (.ldc2_w 36, 3, [0, 18446744073709551615, 417], [1, 5]) := by decide +kernel
theorem bf20_25 : am_fetch (am_mth 20) 25 = some (.lxor, 1, [], [1, 5]) := by decide +kernel
theorem bf20_26 : am_fetch (am_mth 20) 26 = some (.land, 1, [], [1, 5]) := by decide +kernel
theorem bf20_27 : am_fetch (am_mth 20) 27 = some (.goto 12, 3, [], [1, 5]) := by decide +kernel
theorem bf20_30 : am_fetch (am_mth 20) 30 = some (.aload_n 0, 1, [], [1, 5]) := by decide +kernel
theorem bf20_31 : am_fetch (am_mth 20) 31 = some (.getfield 9, 3, [0, 7, 0, 583], [1, 5]) := by decide +kernel
theorem bf20_34 : am_fetch (am_mth 20) 34 = some (.iload_n 2, 1, [], [1, 5]) := by decide +kernel
theorem bf20_35 : am_fetch (am_mth 20) 35 = some (.laload, 1, [], [1, 5]) := by decide +kernel
theorem bf20_36 : am_fetch (am_mth 20) 36 = some (.lload 4, 2, [], [1, 5]) := by decide +kernel
theorem bf20_38 : am_fetch (am_mth 20) 38 = some (.lor, 1, [], [1, 5]) := by decide +kernel
theorem bf20_39 : am_fetch (am_mth 20) 39 = some (.lastore, 1, [], [1, 5]) := by decide +kernel
theorem bf20_40 : am_fetch (am_mth 20) 40 = some (.aload_n 0, 1, [], [1, 5]) := by decide +kernel
theorem bf20_41 : am_fetch (am_mth 20) 41 = some (.getfield 21, 3, [0, 7, 1, 584], [1, 5]) := by decide +kernel
theorem bf20_44 : am_fetch (am_mth 20) 44 = some (.iload_n 2, 1, [], [1, 5]) := by decide +kernel
theorem bf20_45 : am_fetch (am_mth 20) 45 = some (.iload_n 3, 1, [], [1, 5]) := by decide +kernel
theorem bf20_46 : am_fetch (am_mth 20) 46 = some (.ifCond .eq 15, 3, [], [1, 3, 5]) := by decide +kernel
theorem bf20_49 : am_fetch (am_mth 20) 49 = some (.aload_n 0, 1, [], [1, 3, 5]) := by decide +kernel
theorem bf20_50 : am_fetch (am_mth 20) 50 = some (.getfield 21, 3, [0, 7, 1, 584], [0, 1, 3, 5]) := by decide +kernel
theorem bf20_53 : am_fetch (am_mth 20) 53 = some (.iload_n 2, 1, [], [0, 1, 3, 5]) := by decide +kernel
theorem bf20_54 : am_fetch (am_mth 20) 54 = some (.laload, 1, [], [0, 1, 2, 3, 5]) := by decide +kernel
theorem bf20_55 : am_fetch (am_mth 20) 55 = some (.lload 4, 2, [], [0, 1, 2, 3, 5]) := by decide +kernel
theorem bf20_57 : am_fetch (am_mth 20) 57 = some (.lor, 1, [], [0, 1, 2, 3, 4, 5]) := by decide +kernel
theorem bf20_58 : am_fetch (am_mth 20) 58 = some (.goto 16, 3, [], [0, 1, 2, 3, 4, 5]) := by decide +kernel
theorem bf20_61 : am_fetch (am_mth 20) 61 = some (.aload_n 0, 1, [], [1, 3, 5]) := by decide +kernel
theorem bf20_62 : am_fetch (am_mth 20) 62 = some (.getfield 21, 3, [0, 7, 1, 584], [0, 1, 3, 5]) := by decide +kernel
theorem bf20_65 : am_fetch (am_mth 20) 65 = some (.iload_n 2, 1, [], [0, 1, 3, 5]) := by decide +kernel
theorem bf20_66 : am_fetch (am_mth 20) 66 = some (.laload, 1, [], [0, 1, 2, 3, 5]) := by decide +kernel
theorem bf20_67 : am_fetch (am_mth 20) 67 = some (.lload 4, 2, [], [0, 1, 2, 3, 5]) := by decide +kernel
theorem bf20_69 : am_fetch (am_mth 20) 69 = some (.ldc2_w 36, 3, [0, 18446744073709551615, 417], [0, 1, 2, 3, 4, 5]) := by decide +kernel
theorem bf20_72 : am_fetch (am_mth 20) 72 = some (.lxor, 1, [], [0, 1, 2, 3, 4, 5]) := by decide +kernel
theorem bf20_73 : am_fetch (am_mth 20) 73 = some (.land, 1, [], [0, 1, 2, 3, 4, 5]) := by decide +kernel
theorem bf20_74 : am_fetch (am_mth 20) 74 = some (.lastore, 1, [], [0, 1, 2, 3, 4, 5]) := by decide +kernel
theorem bf20_75 : am_fetch (am_mth 20) 75 = some (.return_, 1, [], [0, 1, 2, 3, 4, 5]) := by decide +kernel
theorem bk20_0 {w : am_Wd} {l0 : Nat} {l1 : Int32} {l2 : Int32} {l3 : Int32} : am_run 20 0 [some (.ref l0), some (.int l1), some (.int l2), some (.int l3), none, none] [] w = (am_gf w l0 7 0).bind fun v => am_run 20 9 [some (.ref l0), none, some (.int l2), some (.int l3), some (.long (bj_lshl (lN 1) l1)), none] (v :: []) w := by
  refine (bu (ls'' := [some (.ref l0), some (.int l1), some (.int l2), some (.int l3), none, none]) (st' := [.long (lN 1)]) bf20_0 bf20_1 rfl rfl).trans ?_
  refine (bu (ls'' := [some (.ref l0), none, some (.int l2), some (.int l3), none, none]) (st' := [.int l1, .long (lN 1)]) bf20_1 bf20_2 rfl rfl).trans ?_
  refine (bu (ls'' := [some (.ref l0), none, some (.int l2), some (.int l3), none, none]) (st' := [.long (bj_lshl (lN 1) l1)]) bf20_2 bf20_3 rfl rfl).trans ?_
  refine (bu (ls'' := [some (.ref l0), none, some (.int l2), some (.int l3), some (.long (bj_lshl (lN 1) l1)), none]) (st' := []) bf20_3 bf20_5 rfl rfl).trans ?_
  refine (bu (ls'' := [some (.ref l0), none, some (.int l2), some (.int l3), some (.long (bj_lshl (lN 1) l1)), none]) (st' := [.ref l0]) bf20_5 bf20_6 rfl rfl).trans ?_
  exact bh bf20_6 bf20_9 rfl (fun _ _ => am_ge_rf w) rfl
theorem bk20_9 {w : am_Wd} {l0 : Nat} {l2 : Int32} {l3 : Int32} {l4 : Int64} {s0 : Nat} : am_run 20 9 [some (.ref l0), none, some (.int l2), some (.int l3), some (.long l4), none] [.ref s0] w = if l3 = nI 0 then am_run 20 30 [some (.ref l0), none, some (.int l2), some (.int l3), some (.long l4), none] [.int l2, .ref s0] w else am_run 20 14 [some (.ref l0), none, some (.int l2), some (.int l3), some (.long l4), none] [.int l2, .ref s0] w := by
  refine (bu (ls'' := [some (.ref l0), none, some (.int l2), some (.int l3), some (.long l4), none]) (st' := [.int l2, .ref s0]) bf20_9 bf20_10 rfl rfl).trans ?_
  refine (bu (ls'' := [some (.ref l0), none, some (.int l2), some (.int l3), some (.long l4), none]) (st' := [.int l3, .int l2, .ref s0]) bf20_10 bf20_11 rfl rfl).trans ?_
  exact bifc bf20_11 rfl bf20_30 bf20_14 rfl rfl rfl
theorem bk20_30 {w : am_Wd} {l0 : Nat} {l2 : Int32} {l3 : Int32} {l4 : Int64} {s0 : Int32} {s1 : Nat} : am_run 20 30 [some (.ref l0), none, some (.int l2), some (.int l3), some (.long l4), none] [.int s0, .ref s1] w = (am_gf w l0 7 0).bind fun v => am_run 20 34 [some (.ref l0), none, some (.int l2), some (.int l3), some (.long l4), none] (v :: [.int s0, .ref s1]) w := by
  refine (bu (ls'' := [some (.ref l0), none, some (.int l2), some (.int l3), some (.long l4), none]) (st' := [.ref l0, .int s0, .ref s1]) bf20_30 bf20_31 rfl rfl).trans ?_
  exact bh bf20_31 bf20_34 rfl (fun _ _ => am_ge_rf w) rfl
theorem bk20_14 {w : am_Wd} {l0 : Nat} {l2 : Int32} {l3 : Int32} {l4 : Int64} {s0 : Int32} {s1 : Nat} : am_run 20 14 [some (.ref l0), none, some (.int l2), some (.int l3), some (.long l4), none] [.int s0, .ref s1] w = (am_gf w l0 7 0).bind fun v => am_run 20 18 [some (.ref l0), none, some (.int l2), some (.int l3), some (.long l4), none] (v :: [.int s0, .ref s1]) w := by
  refine (bu (ls'' := [some (.ref l0), none, some (.int l2), some (.int l3), some (.long l4), none]) (st' := [.ref l0, .int s0, .ref s1]) bf20_14 bf20_15 rfl rfl).trans ?_
  exact bh bf20_15 bf20_18 rfl (fun _ _ => am_ge_rf w) rfl
theorem bk20_34 {w : am_Wd} {l0 : Nat} {l2 : Int32} {l3 : Int32} {l4 : Int64} {s0 : Nat} {s1 : Int32} {s2 : Nat} : am_run 20 34 [some (.ref l0), none, some (.int l2), some (.int l3), some (.long l4), none] [.ref s0, .int s1, .ref s2] w = (am_rl w s0 l2).bind fun v => am_run 20 36 [some (.ref l0), none, some (.int l2), some (.int l3), some (.long l4), none] (.long v :: [.int s1, .ref s2]) w := by
  refine (bu (ls'' := [some (.ref l0), none, some (.int l2), some (.int l3), some (.long l4), none]) (st' := [.int l2, .ref s0, .int s1, .ref s2]) bf20_34 bf20_35 rfl rfl).trans ?_
  exact bh bf20_35 bf20_36 rfl (fun _ _ => am_ge_rf w) rfl
theorem bk20_18 {w : am_Wd} {l0 : Nat} {l2 : Int32} {l3 : Int32} {l4 : Int64} {s0 : Nat} {s1 : Int32} {s2 : Nat} : am_run 20 18 [some (.ref l0), none, some (.int l2), some (.int l3), some (.long l4), none] [.ref s0, .int s1, .ref s2] w = (am_rl w s0 l2).bind fun v => am_run 20 20 [some (.ref l0), none, some (.int l2), some (.int l3), some (.long l4), none] (.long v :: [.int s1, .ref s2]) w := by
  refine (bu (ls'' := [some (.ref l0), none, some (.int l2), some (.int l3), some (.long l4), none]) (st' := [.int l2, .ref s0, .int s1, .ref s2]) bf20_18 bf20_19 rfl rfl).trans ?_
  exact bh bf20_19 bf20_20 rfl (fun _ _ => am_ge_rf w) rfl
theorem bk20_36 {w : am_Wd} {l0 : Nat} {l2 : Int32} {l3 : Int32} {l4 : Int64} {s0 : Int64} {s1 : Int32} {s2 : Nat} : am_run 20 36 [some (.ref l0), none, some (.int l2), some (.int l3), some (.long l4), none] [.long s0, .int s1, .ref s2] w = am_run 20 39 [some (.ref l0), none, some (.int l2), some (.int l3), some (.long l4), none] [.long (s0 ||| l4), .int s1, .ref s2] w := by
  refine (bu (ls'' := [some (.ref l0), none, some (.int l2), some (.int l3), some (.long l4), none]) (st' := [.long l4, .long s0, .int s1, .ref s2]) bf20_36 bf20_38 rfl rfl).trans ?_
  refine (bu (ls'' := [some (.ref l0), none, some (.int l2), some (.int l3), some (.long l4), none]) (st' := [.long (s0 ||| l4), .int s1, .ref s2]) bf20_38 bf20_39 rfl rfl).trans ?_
  rfl
theorem bk20_20 {w : am_Wd} {l0 : Nat} {l2 : Int32} {l3 : Int32} {l4 : Int64} {s0 : Int64} {s1 : Int32} {s2 : Nat} : am_run 20 20 [some (.ref l0), none, some (.int l2), some (.int l3), some (.long l4), none] [.long s0, .int s1, .ref s2] w = am_run 20 39 [some (.ref l0), none, some (.int l2), some (.int l3), some (.long l4), none] [.long (s0 &&& (l4 ^^^ (lN 18446744073709551615))), .int s1, .ref s2] w := by
  refine (bu (ls'' := [some (.ref l0), none, some (.int l2), some (.int l3), some (.long l4), none]) (st' := [.long l4, .long s0, .int s1, .ref s2]) bf20_20 bf20_22 rfl rfl).trans ?_
  refine (bu (ls'' := [some (.ref l0), none, some (.int l2), some (.int l3), some (.long l4), none]) (st' := [.long (lN 18446744073709551615), .long l4, .long s0, .int s1, .ref s2]) bf20_22 bf20_25 rfl rfl).trans ?_
  refine (bu (ls'' := [some (.ref l0), none, some (.int l2), some (.int l3), some (.long l4), none]) (st' := [.long (l4 ^^^ (lN 18446744073709551615)), .long s0, .int s1, .ref s2]) bf20_25 bf20_26 rfl rfl).trans ?_
  refine (bu (ls'' := [some (.ref l0), none, some (.int l2), some (.int l3), some (.long l4), none]) (st' := [.long (s0 &&& (l4 ^^^ (lN 18446744073709551615))), .int s1, .ref s2]) bf20_26 bf20_27 rfl rfl).trans ?_
  refine (bu (ls'' := [some (.ref l0), none, some (.int l2), some (.int l3), some (.long l4), none]) (st' := [.long (s0 &&& (l4 ^^^ (lN 18446744073709551615))), .int s1, .ref s2]) bf20_27 bf20_39 rfl rfl).trans ?_
  rfl
theorem bk20_39 {w : am_Wd} {l0 : Nat} {l2 : Int32} {l3 : Int32} {l4 : Int64} {s0 : Int64} {s1 : Int32} {s2 : Nat} : am_run 20 39 [some (.ref l0), none, some (.int l2), some (.int l3), some (.long l4), none] [.long s0, .int s1, .ref s2] w = (am_wl w s2 s1 s0).bind fun w' => am_run 20 40 [some (.ref l0), none, some (.int l2), some (.int l3), some (.long l4), none] [] w' := by
  exact bh bf20_39 bf20_40 rfl (bge_wl) rfl
theorem bk20_40 {w : am_Wd} {l0 : Nat} {l2 : Int32} {l3 : Int32} {l4 : Int64} : am_run 20 40 [some (.ref l0), none, some (.int l2), some (.int l3), some (.long l4), none] [] w = (am_gf w l0 7 1).bind fun v => am_run 20 44 [some (.ref l0), none, some (.int l2), some (.int l3), some (.long l4), none] (v :: []) w := by
  refine (bu (ls'' := [some (.ref l0), none, some (.int l2), some (.int l3), some (.long l4), none]) (st' := [.ref l0]) bf20_40 bf20_41 rfl rfl).trans ?_
  exact bh bf20_41 bf20_44 rfl (fun _ _ => am_ge_rf w) rfl
theorem bk20_44 {w : am_Wd} {l0 : Nat} {l2 : Int32} {l3 : Int32} {l4 : Int64} {s0 : Nat} : am_run 20 44 [some (.ref l0), none, some (.int l2), some (.int l3), some (.long l4), none] [.ref s0] w = if l3 = nI 0 then am_run 20 61 [some (.ref l0), none, some (.int l2), none, some (.long l4), none] [.int l2, .ref s0] w else am_run 20 49 [some (.ref l0), none, some (.int l2), none, some (.long l4), none] [.int l2, .ref s0] w := by
  refine (bu (ls'' := [some (.ref l0), none, some (.int l2), some (.int l3), some (.long l4), none]) (st' := [.int l2, .ref s0]) bf20_44 bf20_45 rfl rfl).trans ?_
  refine (bu (ls'' := [some (.ref l0), none, some (.int l2), none, some (.long l4), none]) (st' := [.int l3, .int l2, .ref s0]) bf20_45 bf20_46 rfl rfl).trans ?_
  exact bifc bf20_46 rfl bf20_61 bf20_49 rfl rfl rfl
theorem bk20_61 {w : am_Wd} {l0 : Nat} {l2 : Int32} {l4 : Int64} {s0 : Int32} {s1 : Nat} : am_run 20 61 [some (.ref l0), none, some (.int l2), none, some (.long l4), none] [.int s0, .ref s1] w = (am_gf w l0 7 1).bind fun v => am_run 20 65 [none, none, some (.int l2), none, some (.long l4), none] (v :: [.int s0, .ref s1]) w := by
  refine (bu (ls'' := [none, none, some (.int l2), none, some (.long l4), none]) (st' := [.ref l0, .int s0, .ref s1]) bf20_61 bf20_62 rfl rfl).trans ?_
  exact bh bf20_62 bf20_65 rfl (fun _ _ => am_ge_rf w) rfl
theorem bk20_49 {w : am_Wd} {l0 : Nat} {l2 : Int32} {l4 : Int64} {s0 : Int32} {s1 : Nat} : am_run 20 49 [some (.ref l0), none, some (.int l2), none, some (.long l4), none] [.int s0, .ref s1] w = (am_gf w l0 7 1).bind fun v => am_run 20 53 [none, none, some (.int l2), none, some (.long l4), none] (v :: [.int s0, .ref s1]) w := by
  refine (bu (ls'' := [none, none, some (.int l2), none, some (.long l4), none]) (st' := [.ref l0, .int s0, .ref s1]) bf20_49 bf20_50 rfl rfl).trans ?_
  exact bh bf20_50 bf20_53 rfl (fun _ _ => am_ge_rf w) rfl
theorem bk20_65 {w : am_Wd} {l2 : Int32} {l4 : Int64} {s0 : Nat} {s1 : Int32} {s2 : Nat} : am_run 20 65 [none, none, some (.int l2), none, some (.long l4), none] [.ref s0, .int s1, .ref s2] w = (am_rl w s0 l2).bind fun v => am_run 20 67 [none, none, none, none, some (.long l4), none] (.long v :: [.int s1, .ref s2]) w := by
  refine (bu (ls'' := [none, none, none, none, some (.long l4), none]) (st' := [.int l2, .ref s0, .int s1, .ref s2]) bf20_65 bf20_66 rfl rfl).trans ?_
  exact bh bf20_66 bf20_67 rfl (fun _ _ => am_ge_rf w) rfl
theorem bk20_53 {w : am_Wd} {l2 : Int32} {l4 : Int64} {s0 : Nat} {s1 : Int32} {s2 : Nat} : am_run 20 53 [none, none, some (.int l2), none, some (.long l4), none] [.ref s0, .int s1, .ref s2] w = (am_rl w s0 l2).bind fun v => am_run 20 55 [none, none, none, none, some (.long l4), none] (.long v :: [.int s1, .ref s2]) w := by
  refine (bu (ls'' := [none, none, none, none, some (.long l4), none]) (st' := [.int l2, .ref s0, .int s1, .ref s2]) bf20_53 bf20_54 rfl rfl).trans ?_
  exact bh bf20_54 bf20_55 rfl (fun _ _ => am_ge_rf w) rfl
theorem bk20_67 {w : am_Wd} {l4 : Int64} {s0 : Int64} {s1 : Int32} {s2 : Nat} : am_run 20 67 [none, none, none, none, some (.long l4), none] [.long s0, .int s1, .ref s2] w = am_run 20 74 [none, none, none, none, none, none] [.long (s0 &&& (l4 ^^^ (lN 18446744073709551615))), .int s1, .ref s2] w := by
  refine (bu (ls'' := [none, none, none, none, none, none]) (st' := [.long l4, .long s0, .int s1, .ref s2]) bf20_67 bf20_69 rfl rfl).trans ?_
  refine (bu (ls'' := [none, none, none, none, none, none]) (st' := [.long (lN 18446744073709551615), .long l4, .long s0, .int s1, .ref s2]) bf20_69 bf20_72 rfl rfl).trans ?_
  refine (bu (ls'' := [none, none, none, none, none, none]) (st' := [.long (l4 ^^^ (lN 18446744073709551615)), .long s0, .int s1, .ref s2]) bf20_72 bf20_73 rfl rfl).trans ?_
  refine (bu (ls'' := [none, none, none, none, none, none]) (st' := [.long (s0 &&& (l4 ^^^ (lN 18446744073709551615))), .int s1, .ref s2]) bf20_73 bf20_74 rfl rfl).trans ?_
  rfl
theorem bk20_55 {w : am_Wd} {l4 : Int64} {s0 : Int64} {s1 : Int32} {s2 : Nat} : am_run 20 55 [none, none, none, none, some (.long l4), none] [.long s0, .int s1, .ref s2] w = am_run 20 74 [none, none, none, none, none, none] [.long (s0 ||| l4), .int s1, .ref s2] w := by
  refine (bu (ls'' := [none, none, none, none, none, none]) (st' := [.long l4, .long s0, .int s1, .ref s2]) bf20_55 bf20_57 rfl rfl).trans ?_
  refine (bu (ls'' := [none, none, none, none, none, none]) (st' := [.long (s0 ||| l4), .int s1, .ref s2]) bf20_57 bf20_58 rfl rfl).trans ?_
  refine (bu (ls'' := [none, none, none, none, none, none]) (st' := [.long (s0 ||| l4), .int s1, .ref s2]) bf20_58 bf20_74 rfl rfl).trans ?_
  rfl
theorem bk20_74 {w : am_Wd} {s0 : Int64} {s1 : Int32} {s2 : Nat} : am_run 20 74 [none, none, none, none, none, none] [.long s0, .int s1, .ref s2] w = (am_wl w s2 s1 s0).bind fun w' => am_run 20 75 [none, none, none, none, none, none] [] w' := by
  exact bh bf20_74 bf20_75 rfl (bge_wl) rfl
theorem bk20_75 {w : am_Wd}  : am_run 20 75 [none, none, none, none, none, none] [] w = some (.inl none, w) := by
  exact am_e2 bf20_75 rfl (am_ge_rf w)
theorem bf21_0 : am_fetch (am_mth 21) 0 = some (.ldc2_w 38, 3, [0, 68719476735, 416], []) := by decide +kernel
theorem bf21_3 : am_fetch (am_mth 21) 3 = some (.iload_n 2, 1, [], []) := by decide +kernel
theorem bf21_4 : am_fetch (am_mth 21) 4 = some (.ifCond .eq 12, 3, [], [2]) := by decide +kernel
theorem bf21_7 : am_fetch (am_mth 21) 7 = some (.aload_n 0, 1, [], [2]) := by decide +kernel
theorem bf21_8 : am_fetch (am_mth 21) 8 = some (.getfield 9, 3, [0, 7, 0, 583], [0, 2]) := by decide +kernel
theorem bf21_11 : am_fetch (am_mth 21) 11 = some (.iload_n 1, 1, [], [0, 2]) := by decide +kernel
theorem bf21_12 : am_fetch (am_mth 21) 12 = some (.laload, 1, [], [0, 1, 2]) := by decide +kernel
theorem bf21_13 : am_fetch (am_mth 21) 13 = some (.goto 9, 3, [], [0, 1, 2]) := by decide +kernel
theorem bf21_16 : am_fetch (am_mth 21) 16 = some (.aload_n 0, 1, [], [2]) := by decide +kernel
theorem bf21_17 : am_fetch (am_mth 21) 17 = some (.getfield 21, 3, [0, 7, 1, 584], [0, 2]) := by decide +kernel
theorem bf21_20 : am_fetch (am_mth 21) 20 = some (.iload_n 1, 1, [], [0, 2]) := by decide +kernel
theorem bf21_21 : am_fetch (am_mth 21) 21 = some (.laload, 1, [], [0, 1, 2]) := by decide +kernel
theorem bf21_22 : am_fetch (am_mth 21) 22 = some (.ldc2_w 36, 3, [0, 18446744073709551615, 417], [0, 1, 2]) := by decide +kernel
theorem bf21_25 : am_fetch (am_mth 21) 25 = some (.lxor, 1, [], [0, 1, 2]) := by decide +kernel
theorem bf21_26 : am_fetch (am_mth 21) 26 = some (.land, 1, [], [0, 1, 2]) := by decide +kernel
theorem bf21_27 : am_fetch (am_mth 21) 27 = some (.lreturn, 1, [], [0, 1, 2]) := by decide +kernel
theorem bk21_0 {w : am_Wd} {l0 : Nat} {l1 : Int32} {l2 : Int32} : am_run 21 0 [some (.ref l0), some (.int l1), some (.int l2)] [] w = if l2 = nI 0 then am_run 21 16 [some (.ref l0), some (.int l1), none] [.long (lN 68719476735)] w else am_run 21 7 [some (.ref l0), some (.int l1), none] [.long (lN 68719476735)] w := by
  refine (bu (ls'' := [some (.ref l0), some (.int l1), some (.int l2)]) (st' := [.long (lN 68719476735)]) bf21_0 bf21_3 rfl rfl).trans ?_
  refine (bu (ls'' := [some (.ref l0), some (.int l1), none]) (st' := [.int l2, .long (lN 68719476735)]) bf21_3 bf21_4 rfl rfl).trans ?_
  exact bifc bf21_4 rfl bf21_16 bf21_7 rfl rfl rfl
theorem bk21_16 {w : am_Wd} {l0 : Nat} {l1 : Int32} {s0 : Int64} : am_run 21 16 [some (.ref l0), some (.int l1), none] [.long s0] w = (am_gf w l0 7 1).bind fun v => am_run 21 20 [none, some (.int l1), none] (v :: [.long s0]) w := by
  refine (bu (ls'' := [none, some (.int l1), none]) (st' := [.ref l0, .long s0]) bf21_16 bf21_17 rfl rfl).trans ?_
  exact bh bf21_17 bf21_20 rfl (fun _ _ => am_ge_rf w) rfl
theorem bk21_7 {w : am_Wd} {l0 : Nat} {l1 : Int32} {s0 : Int64} : am_run 21 7 [some (.ref l0), some (.int l1), none] [.long s0] w = (am_gf w l0 7 0).bind fun v => am_run 21 11 [none, some (.int l1), none] (v :: [.long s0]) w := by
  refine (bu (ls'' := [none, some (.int l1), none]) (st' := [.ref l0, .long s0]) bf21_7 bf21_8 rfl rfl).trans ?_
  exact bh bf21_8 bf21_11 rfl (fun _ _ => am_ge_rf w) rfl
theorem bk21_20 {w : am_Wd} {l1 : Int32} {s0 : Nat} {s1 : Int64} : am_run 21 20 [none, some (.int l1), none] [.ref s0, .long s1] w = (am_rl w s0 l1).bind fun v => am_run 21 22 [none, none, none] (.long v :: [.long s1]) w := by
  refine (bu (ls'' := [none, none, none]) (st' := [.int l1, .ref s0, .long s1]) bf21_20 bf21_21 rfl rfl).trans ?_
  exact bh bf21_21 bf21_22 rfl (fun _ _ => am_ge_rf w) rfl
theorem bk21_11 {w : am_Wd} {l1 : Int32} {s0 : Nat} {s1 : Int64} : am_run 21 11 [none, some (.int l1), none] [.ref s0, .long s1] w = (am_rl w s0 l1).bind fun v => am_run 21 13 [none, none, none] (.long v :: [.long s1]) w := by
  refine (bu (ls'' := [none, none, none]) (st' := [.int l1, .ref s0, .long s1]) bf21_11 bf21_12 rfl rfl).trans ?_
  exact bh bf21_12 bf21_13 rfl (fun _ _ => am_ge_rf w) rfl
theorem bk21_22 {w : am_Wd} {s0 : Int64} {s1 : Int64} : am_run 21 22 [none, none, none] [.long s0, .long s1] w = some (.inl (some (.long (s1 &&& (s0 ^^^ (lN 18446744073709551615))))), w) := by
  refine (bu (ls'' := [none, none, none]) (st' := [.long (lN 18446744073709551615), .long s0, .long s1]) bf21_22 bf21_25 rfl rfl).trans ?_
  refine (bu (ls'' := [none, none, none]) (st' := [.long (s0 ^^^ (lN 18446744073709551615)), .long s1]) bf21_25 bf21_26 rfl rfl).trans ?_
  refine (bu (ls'' := [none, none, none]) (st' := [.long (s1 &&& (s0 ^^^ (lN 18446744073709551615)))]) bf21_26 bf21_27 rfl rfl).trans ?_
  exact am_e2 bf21_27 rfl (am_ge_rf w)
theorem bk21_13 {w : am_Wd} {s0 : Int64} {s1 : Int64} : am_run 21 13 [none, none, none] [.long s0, .long s1] w = am_run 21 22 [none, none, none] [.long s0, .long s1] w := by
  refine (bu (ls'' := [none, none, none]) (st' := [.long s0, .long s1]) bf21_13 bf21_22 rfl rfl).trans ?_
  rfl
theorem bf22_0 : am_fetch (am_mth 22) 0 = some (.ldc2_w 38, 3, [0, 68719476735, 416], []) := by decide +kernel
theorem bf22_3 : am_fetch (am_mth 22) 3 = some (.aload_n 0, 1, [], []) := by decide +kernel
theorem bf22_4 : am_fetch (am_mth 22) 4 = some (.getfield 9, 3, [0, 7, 0, 583], []) := by decide +kernel
theorem bf22_7 : am_fetch (am_mth 22) 7 = some (.iload_n 1, 1, [], []) := by decide +kernel
theorem bf22_8 : am_fetch (am_mth 22) 8 = some (.laload, 1, [], []) := by decide +kernel
theorem bf22_9 : am_fetch (am_mth 22) 9 = some (.ldc2_w 36, 3, [0, 18446744073709551615, 417], []) := by decide +kernel
theorem bf22_12 : am_fetch (am_mth 22) 12 = some (.lxor, 1, [], []) := by decide +kernel
theorem bf22_13 : am_fetch (am_mth 22) 13 = some (.land, 1, [], []) := by decide +kernel
theorem bf22_14 : am_fetch (am_mth 22) 14 = some (.aload_n 0, 1, [], []) := by decide +kernel
theorem bf22_15 : am_fetch (am_mth 22) 15 = some (.getfield 21, 3, [0, 7, 1, 584], [0]) := by decide +kernel
theorem bf22_18 : am_fetch (am_mth 22) 18 = some (.iload_n 1, 1, [], [0]) := by decide +kernel
theorem bf22_19 : am_fetch (am_mth 22) 19 = some (.laload, 1, [], [0, 1]) := by decide +kernel
theorem bf22_20 : am_fetch (am_mth 22) 20 = some (.ldc2_w 36, 3, [0, 18446744073709551615, 417], [0, 1]) := by decide +kernel
theorem bf22_23 : am_fetch (am_mth 22) 23 = some (.lxor, 1, [], [0, 1]) := by decide +kernel
theorem bf22_24 : am_fetch (am_mth 22) 24 = some (.land, 1, [], [0, 1]) := by decide +kernel
theorem bf22_25 : am_fetch (am_mth 22) 25 = some (.lreturn, 1, [], [0, 1]) := by decide +kernel
theorem bk22_0 {w : am_Wd} {l0 : Nat} {l1 : Int32} : am_run 22 0 [some (.ref l0), some (.int l1)] [] w = (am_gf w l0 7 0).bind fun v => am_run 22 7 [some (.ref l0), some (.int l1)] (v :: [.long (lN 68719476735)]) w := by
  refine (bu (ls'' := [some (.ref l0), some (.int l1)]) (st' := [.long (lN 68719476735)]) bf22_0 bf22_3 rfl rfl).trans ?_
  refine (bu (ls'' := [some (.ref l0), some (.int l1)]) (st' := [.ref l0, .long (lN 68719476735)]) bf22_3 bf22_4 rfl rfl).trans ?_
  exact bh bf22_4 bf22_7 rfl (fun _ _ => am_ge_rf w) rfl
theorem bk22_7 {w : am_Wd} {l0 : Nat} {l1 : Int32} {s0 : Nat} {s1 : Int64} : am_run 22 7 [some (.ref l0), some (.int l1)] [.ref s0, .long s1] w = (am_rl w s0 l1).bind fun v => am_run 22 9 [some (.ref l0), some (.int l1)] (.long v :: [.long s1]) w := by
  refine (bu (ls'' := [some (.ref l0), some (.int l1)]) (st' := [.int l1, .ref s0, .long s1]) bf22_7 bf22_8 rfl rfl).trans ?_
  exact bh bf22_8 bf22_9 rfl (fun _ _ => am_ge_rf w) rfl
theorem bk22_9 {w : am_Wd} {l0 : Nat} {l1 : Int32} {s0 : Int64} {s1 : Int64} : am_run 22 9 [some (.ref l0), some (.int l1)] [.long s0, .long s1] w = (am_gf w l0 7 1).bind fun v => am_run 22 18 [none, some (.int l1)] (v :: [.long (s1 &&& (s0 ^^^ (lN 18446744073709551615)))]) w := by
  refine (bu (ls'' := [some (.ref l0), some (.int l1)]) (st' := [.long (lN 18446744073709551615), .long s0, .long s1]) bf22_9 bf22_12 rfl rfl).trans ?_
  refine (bu (ls'' := [some (.ref l0), some (.int l1)]) (st' := [.long (s0 ^^^ (lN 18446744073709551615)), .long s1]) bf22_12 bf22_13 rfl rfl).trans ?_
  refine (bu (ls'' := [some (.ref l0), some (.int l1)]) (st' := [.long (s1 &&& (s0 ^^^ (lN 18446744073709551615)))]) bf22_13 bf22_14 rfl rfl).trans ?_
  refine (bu (ls'' := [none, some (.int l1)]) (st' := [.ref l0, .long (s1 &&& (s0 ^^^ (lN 18446744073709551615)))]) bf22_14 bf22_15 rfl rfl).trans ?_
  exact bh bf22_15 bf22_18 rfl (fun _ _ => am_ge_rf w) rfl
theorem bk22_18 {w : am_Wd} {l1 : Int32} {s0 : Nat} {s1 : Int64} : am_run 22 18 [none, some (.int l1)] [.ref s0, .long s1] w = (am_rl w s0 l1).bind fun v => am_run 22 20 [none, none] (.long v :: [.long s1]) w := by
  refine (bu (ls'' := [none, none]) (st' := [.int l1, .ref s0, .long s1]) bf22_18 bf22_19 rfl rfl).trans ?_
  exact bh bf22_19 bf22_20 rfl (fun _ _ => am_ge_rf w) rfl
theorem bk22_20 {w : am_Wd} {s0 : Int64} {s1 : Int64} : am_run 22 20 [none, none] [.long s0, .long s1] w = some (.inl (some (.long (s1 &&& (s0 ^^^ (lN 18446744073709551615))))), w) := by
  refine (bu (ls'' := [none, none]) (st' := [.long (lN 18446744073709551615), .long s0, .long s1]) bf22_20 bf22_23 rfl rfl).trans ?_
  refine (bu (ls'' := [none, none]) (st' := [.long (s0 ^^^ (lN 18446744073709551615)), .long s1]) bf22_23 bf22_24 rfl rfl).trans ?_
  refine (bu (ls'' := [none, none]) (st' := [.long (s1 &&& (s0 ^^^ (lN 18446744073709551615)))]) bf22_24 bf22_25 rfl rfl).trans ?_
  exact am_e2 bf22_25 rfl (am_ge_rf w)
theorem bf23_0 : am_fetch (am_mth 23) 0 = some (.lload_n 1, 1, [], [2, 3, 4, 5, 6, 7, 8, 9, 10]) := by decide +kernel
theorem bf23_1 : am_fetch (am_mth 23) 1 = some (.aload_n 0, 1, [], [2, 3, 4, 5, 6, 7, 8, 9, 10]) := by decide +kernel
theorem bf23_2 : am_fetch (am_mth 23) 2 = some (.getfield 9, 3, [0, 7, 0, 583], [2, 3, 4, 5, 6, 7, 8, 9, 10]) := by decide +kernel
theorem bf23_5 : am_fetch (am_mth 23) 5 = some (.iconst 0, 1, [], [2, 3, 4, 5, 6, 7, 8, 9, 10]) := by decide +kernel
theorem bf23_6 : am_fetch (am_mth 23) 6 = some (.laload, 1, [], [2, 3, 4, 5, 6, 7, 8, 9, 10]) := by decide +kernel
theorem bf23_7 : am_fetch (am_mth 23) 7 = some (.land, 1, [], [2, 3, 4, 5, 6, 7, 8, 9, 10]) := by decide +kernel
theorem bf23_8 : am_fetch (am_mth 23) 8 = some (.bipush 6, 2, [], [2, 3, 4, 5, 6, 7, 8, 9, 10]) := by decide +kernel
theorem bf23_10 : am_fetch (am_mth 23) 10 = some (.lushr, 1, [], [2, 3, 4, 5, 6, 7, 8, 9, 10]) := by decide +kernel
theorem bf23_11 : am_fetch (am_mth 23) 11 = some (.lstore_n 3, 1, [], [2, 3, 4, 5, 6, 7, 8, 9, 10]) := by decide +kernel
theorem bf23_12 : am_fetch (am_mth 23) 12 = some (.lload_n 1, 1, [], [2, 4, 5, 6, 7, 8, 9, 10]) := by decide +kernel
theorem bf23_13 : am_fetch (am_mth 23) 13 = some (.aload_n 0, 1, [], [2, 4, 5, 6, 7, 8, 9, 10]) := by decide +kernel
theorem bf23_14 : am_fetch (am_mth 23) 14 = some (.getfield 9, 3, [0, 7, 0, 583], [2, 4, 5, 6, 7, 8, 9, 10]) := by decide +kernel
theorem bf23_17 : am_fetch (am_mth 23) 17 = some (.iconst 1, 1, [], [2, 4, 5, 6, 7, 8, 9, 10]) := by decide +kernel
theorem bf23_18 : am_fetch (am_mth 23) 18 = some (.laload, 1, [], [2, 4, 5, 6, 7, 8, 9, 10]) := by decide +kernel
theorem bf23_19 : am_fetch (am_mth 23) 19 = some (.land, 1, [], [2, 4, 5, 6, 7, 8, 9, 10]) := by decide +kernel
theorem bf23_20 : am_fetch (am_mth 23) 20 = some (.iconst 1, 1, [], [2, 4, 5, 6, 7, 8, 9, 10]) := by decide +kernel
theorem bf23_21 : am_fetch (am_mth 23) 21 = some (.lshl, 1, [], [2, 4, 5, 6, 7, 8, 9, 10]) := by decide +kernel
theorem bf23_22 : am_fetch (am_mth 23) 22 = some (.lstore 5, 2, [], [2, 4, 5, 6, 7, 8, 9, 10]) := by decide +kernel
theorem bf23_24 : am_fetch (am_mth 23) 24 = some (.lload_n 1, 1, [], [2, 4, 6, 7, 8, 9, 10]) := by decide +kernel
theorem bf23_25 : am_fetch (am_mth 23) 25 = some (.aload_n 0, 1, [], [2, 4, 6, 7, 8, 9, 10]) := by decide +kernel
theorem bf23_26 : am_fetch (am_mth 23) 26 = some (.getfield 9, 3, [0, 7, 0, 583], [2, 4, 6, 7, 8, 9, 10]) := by decide +kernel
theorem bf23_29 : am_fetch (am_mth 23) 29 = some (.iconst 2, 1, [], [2, 4, 6, 7, 8, 9, 10]) := by decide +kernel
theorem bf23_30 : am_fetch (am_mth 23) 30 = some (.laload, 1, [], [2, 4, 6, 7, 8, 9, 10]) := by decide +kernel
theorem bf23_31 : am_fetch (am_mth 23) 31 = some (.land, 1, [], [2, 4, 6, 7, 8, 9, 10]) := by decide +kernel
theorem bf23_32 : am_fetch (am_mth 23) 32 = some (.bipush 6, 2, [], [2, 4, 6, 7, 8, 9, 10]) := by decide +kernel
theorem bf23_34 : am_fetch (am_mth 23) 34 = some (.lshl, 1, [], [2, 4, 6, 7, 8, 9, 10]) := by decide +kernel
theorem bf23_35 : am_fetch (am_mth 23) 35 = some (.lstore 7, 2, [], [2, 4, 6, 7, 8, 9, 10]) := by decide +kernel
theorem bf23_37 : am_fetch (am_mth 23) 37 = some (.lload_n 1, 1, [], [2, 4, 6, 8, 9, 10]) := by decide +kernel
theorem bf23_38 : am_fetch (am_mth 23) 38 = some (.aload_n 0, 1, [], [2, 4, 6, 8, 9, 10]) := by decide +kernel
theorem bf23_39 : am_fetch (am_mth 23) 39 = some (.getfield 9, 3, [0, 7, 0, 583], [0, 2, 4, 6, 8, 9, 10]) := by decide +kernel
theorem bf23_42 : am_fetch (am_mth 23) 42 = some (.iconst 3, 1, [], [0, 2, 4, 6, 8, 9, 10]) := by decide +kernel
theorem bf23_43 : am_fetch (am_mth 23) 43 = some (.laload, 1, [], [0, 2, 4, 6, 8, 9, 10]) := by decide +kernel
theorem bf23_44 : am_fetch (am_mth 23) 44 = some (.land, 1, [], [0, 2, 4, 6, 8, 9, 10]) := by decide +kernel
theorem bf23_45 : am_fetch (am_mth 23) 45 = some (.iconst 1, 1, [], [0, 2, 4, 6, 8, 9, 10]) := by decide +kernel
theorem bf23_46 : am_fetch (am_mth 23) 46 = some (.lushr, 1, [], [0, 2, 4, 6, 8, 9, 10]) := by decide +kernel
theorem bf23_47 : am_fetch (am_mth 23) 47 = some (.lstore 9, 2, [], [0, 2, 4, 6, 8, 9, 10]) := by decide +kernel
theorem bf23_49 : am_fetch (am_mth 23) 49 = some (.lload_n 1, 1, [], [0, 2, 4, 6, 8, 10]) := by decide +kernel
theorem bf23_50 : am_fetch (am_mth 23) 50 = some (.lload_n 3, 1, [], [0, 1, 2, 4, 6, 8, 10]) := by decide +kernel
theorem bf23_51 : am_fetch (am_mth 23) 51 = some (.lor, 1, [], [0, 1, 2, 3, 4, 6, 8, 10]) := by decide +kernel
theorem bf23_52 : am_fetch (am_mth 23) 52 = some (.lload 5, 2, [], [0, 1, 2, 3, 4, 6, 8, 10]) := by decide +kernel
theorem bf23_54 : am_fetch (am_mth 23) 54 = some (.lor, 1, [], [0, 1, 2, 3, 4, 5, 6, 8, 10]) := by decide +kernel
theorem bf23_55 : am_fetch (am_mth 23) 55 = some (.lload 7, 2, [], [0, 1, 2, 3, 4, 5, 6, 8, 10]) := by decide +kernel
theorem bf23_57 : am_fetch (am_mth 23) 57 = some (.lor, 1, [], [0, 1, 2, 3, 4, 5, 6, 7, 8, 10]) := by decide +kernel
theorem bf23_58 : am_fetch (am_mth 23) 58 = some (.lload 9, 2, [], [0, 1, 2, 3, 4, 5, 6, 7, 8, 10]) := by decide +kernel
theorem bf23_60 : am_fetch (am_mth 23) 60 = some (.lor, 1, [], [0, 1, 2, 3, 4, 5, 6, 7, 8, 9, 10]) := by decide +kernel
theorem bf23_61 : am_fetch (am_mth 23) 61 = some (.lreturn, 1, [], [0, 1, 2, 3, 4, 5, 6, 7, 8, 9, 10]) := by decide +kernel
theorem bk23_0 {w : am_Wd} {l0 : Nat} {l1 : Int64} : am_run 23 0 [some (.ref l0), some (.long l1), none, none, none, none, none, none, none, none, none] [] w = (am_gf w l0 7 0).bind fun v => am_run 23 5 [some (.ref l0), some (.long l1), none, none, none, none, none, none, none, none, none] (v :: [.long l1]) w := by
  refine (bu (ls'' := [some (.ref l0), some (.long l1), none, none, none, none, none, none, none, none, none]) (st' := [.long l1]) bf23_0 bf23_1 rfl rfl).trans ?_
  refine (bu (ls'' := [some (.ref l0), some (.long l1), none, none, none, none, none, none, none, none, none]) (st' := [.ref l0, .long l1]) bf23_1 bf23_2 rfl rfl).trans ?_
  exact bh bf23_2 bf23_5 rfl (fun _ _ => am_ge_rf w) rfl
theorem bk23_5 {w : am_Wd} {l0 : Nat} {l1 : Int64} {s0 : Nat} {s1 : Int64} : am_run 23 5 [some (.ref l0), some (.long l1), none, none, none, none, none, none, none, none, none] [.ref s0, .long s1] w = (am_rl w s0 (nI 0)).bind fun v => am_run 23 7 [some (.ref l0), some (.long l1), none, none, none, none, none, none, none, none, none] (.long v :: [.long s1]) w := by
  refine (bu (ls'' := [some (.ref l0), some (.long l1), none, none, none, none, none, none, none, none, none]) (st' := [.int (nI 0), .ref s0, .long s1]) bf23_5 bf23_6 rfl rfl).trans ?_
  exact bh bf23_6 bf23_7 rfl (fun _ _ => am_ge_rf w) rfl
theorem bk23_7 {w : am_Wd} {l0 : Nat} {l1 : Int64} {s0 : Int64} {s1 : Int64} : am_run 23 7 [some (.ref l0), some (.long l1), none, none, none, none, none, none, none, none, none] [.long s0, .long s1] w = (am_gf w l0 7 0).bind fun v => am_run 23 17 [some (.ref l0), some (.long l1), none, some (.long (bj_lushr (s1 &&& s0) (nI 6))), none, none, none, none, none, none, none] (v :: [.long l1]) w := by
  refine (bu (ls'' := [some (.ref l0), some (.long l1), none, none, none, none, none, none, none, none, none]) (st' := [.long (s1 &&& s0)]) bf23_7 bf23_8 rfl rfl).trans ?_
  refine (bu (ls'' := [some (.ref l0), some (.long l1), none, none, none, none, none, none, none, none, none]) (st' := [.int (nI 6), .long (s1 &&& s0)]) bf23_8 bf23_10 rfl rfl).trans ?_
  refine (bu (ls'' := [some (.ref l0), some (.long l1), none, none, none, none, none, none, none, none, none]) (st' := [.long (bj_lushr (s1 &&& s0) (nI 6))]) bf23_10 bf23_11 rfl rfl).trans ?_
  refine (bu (ls'' := [some (.ref l0), some (.long l1), none, some (.long (bj_lushr (s1 &&& s0) (nI 6))), none, none, none, none, none, none, none]) (st' := []) bf23_11 bf23_12 rfl rfl).trans ?_
  refine (bu (ls'' := [some (.ref l0), some (.long l1), none, some (.long (bj_lushr (s1 &&& s0) (nI 6))), none, none, none, none, none, none, none]) (st' := [.long l1]) bf23_12 bf23_13 rfl rfl).trans ?_
  refine (bu (ls'' := [some (.ref l0), some (.long l1), none, some (.long (bj_lushr (s1 &&& s0) (nI 6))), none, none, none, none, none, none, none]) (st' := [.ref l0, .long l1]) bf23_13 bf23_14 rfl rfl).trans ?_
  exact bh bf23_14 bf23_17 rfl (fun _ _ => am_ge_rf w) rfl
theorem bk23_17 {w : am_Wd} {l0 : Nat} {l1 : Int64} {l3 : Int64} {s0 : Nat} {s1 : Int64} : am_run 23 17 [some (.ref l0), some (.long l1), none, some (.long l3), none, none, none, none, none, none, none] [.ref s0, .long s1] w = (am_rl w s0 (nI 1)).bind fun v => am_run 23 19 [some (.ref l0), some (.long l1), none, some (.long l3), none, none, none, none, none, none, none] (.long v :: [.long s1]) w := by
  refine (bu (ls'' := [some (.ref l0), some (.long l1), none, some (.long l3), none, none, none, none, none, none, none]) (st' := [.int (nI 1), .ref s0, .long s1]) bf23_17 bf23_18 rfl rfl).trans ?_
  exact bh bf23_18 bf23_19 rfl (fun _ _ => am_ge_rf w) rfl
theorem bk23_19 {w : am_Wd} {l0 : Nat} {l1 : Int64} {l3 : Int64} {s0 : Int64} {s1 : Int64} : am_run 23 19 [some (.ref l0), some (.long l1), none, some (.long l3), none, none, none, none, none, none, none] [.long s0, .long s1] w = (am_gf w l0 7 0).bind fun v => am_run 23 29 [some (.ref l0), some (.long l1), none, some (.long l3), none, some (.long (bj_lshl (s1 &&& s0) (nI 1))), none, none, none, none, none] (v :: [.long l1]) w := by
  refine (bu (ls'' := [some (.ref l0), some (.long l1), none, some (.long l3), none, none, none, none, none, none, none]) (st' := [.long (s1 &&& s0)]) bf23_19 bf23_20 rfl rfl).trans ?_
  refine (bu (ls'' := [some (.ref l0), some (.long l1), none, some (.long l3), none, none, none, none, none, none, none]) (st' := [.int (nI 1), .long (s1 &&& s0)]) bf23_20 bf23_21 rfl rfl).trans ?_
  refine (bu (ls'' := [some (.ref l0), some (.long l1), none, some (.long l3), none, none, none, none, none, none, none]) (st' := [.long (bj_lshl (s1 &&& s0) (nI 1))]) bf23_21 bf23_22 rfl rfl).trans ?_
  refine (bu (ls'' := [some (.ref l0), some (.long l1), none, some (.long l3), none, some (.long (bj_lshl (s1 &&& s0) (nI 1))), none, none, none, none, none]) (st' := []) bf23_22 bf23_24 rfl rfl).trans ?_
  refine (bu (ls'' := [some (.ref l0), some (.long l1), none, some (.long l3), none, some (.long (bj_lshl (s1 &&& s0) (nI 1))), none, none, none, none, none]) (st' := [.long l1]) bf23_24 bf23_25 rfl rfl).trans ?_
  refine (bu (ls'' := [some (.ref l0), some (.long l1), none, some (.long l3), none, some (.long (bj_lshl (s1 &&& s0) (nI 1))), none, none, none, none, none]) (st' := [.ref l0, .long l1]) bf23_25 bf23_26 rfl rfl).trans ?_
  exact bh bf23_26 bf23_29 rfl (fun _ _ => am_ge_rf w) rfl
theorem bk23_29 {w : am_Wd} {l0 : Nat} {l1 : Int64} {l3 : Int64} {l5 : Int64} {s0 : Nat} {s1 : Int64} : am_run 23 29 [some (.ref l0), some (.long l1), none, some (.long l3), none, some (.long l5), none, none, none, none, none] [.ref s0, .long s1] w = (am_rl w s0 (nI 2)).bind fun v => am_run 23 31 [some (.ref l0), some (.long l1), none, some (.long l3), none, some (.long l5), none, none, none, none, none] (.long v :: [.long s1]) w := by
  refine (bu (ls'' := [some (.ref l0), some (.long l1), none, some (.long l3), none, some (.long l5), none, none, none, none, none]) (st' := [.int (nI 2), .ref s0, .long s1]) bf23_29 bf23_30 rfl rfl).trans ?_
  exact bh bf23_30 bf23_31 rfl (fun _ _ => am_ge_rf w) rfl
theorem bk23_31 {w : am_Wd} {l0 : Nat} {l1 : Int64} {l3 : Int64} {l5 : Int64} {s0 : Int64} {s1 : Int64} : am_run 23 31 [some (.ref l0), some (.long l1), none, some (.long l3), none, some (.long l5), none, none, none, none, none] [.long s0, .long s1] w = (am_gf w l0 7 0).bind fun v => am_run 23 42 [none, some (.long l1), none, some (.long l3), none, some (.long l5), none, some (.long (bj_lshl (s1 &&& s0) (nI 6))), none, none, none] (v :: [.long l1]) w := by
  refine (bu (ls'' := [some (.ref l0), some (.long l1), none, some (.long l3), none, some (.long l5), none, none, none, none, none]) (st' := [.long (s1 &&& s0)]) bf23_31 bf23_32 rfl rfl).trans ?_
  refine (bu (ls'' := [some (.ref l0), some (.long l1), none, some (.long l3), none, some (.long l5), none, none, none, none, none]) (st' := [.int (nI 6), .long (s1 &&& s0)]) bf23_32 bf23_34 rfl rfl).trans ?_
  refine (bu (ls'' := [some (.ref l0), some (.long l1), none, some (.long l3), none, some (.long l5), none, none, none, none, none]) (st' := [.long (bj_lshl (s1 &&& s0) (nI 6))]) bf23_34 bf23_35 rfl rfl).trans ?_
  refine (bu (ls'' := [some (.ref l0), some (.long l1), none, some (.long l3), none, some (.long l5), none, some (.long (bj_lshl (s1 &&& s0) (nI 6))), none, none, none]) (st' := []) bf23_35 bf23_37 rfl rfl).trans ?_
  refine (bu (ls'' := [some (.ref l0), some (.long l1), none, some (.long l3), none, some (.long l5), none, some (.long (bj_lshl (s1 &&& s0) (nI 6))), none, none, none]) (st' := [.long l1]) bf23_37 bf23_38 rfl rfl).trans ?_
  refine (bu (ls'' := [none, some (.long l1), none, some (.long l3), none, some (.long l5), none, some (.long (bj_lshl (s1 &&& s0) (nI 6))), none, none, none]) (st' := [.ref l0, .long l1]) bf23_38 bf23_39 rfl rfl).trans ?_
  exact bh bf23_39 bf23_42 rfl (fun _ _ => am_ge_rf w) rfl
theorem bk23_42 {w : am_Wd} {l1 : Int64} {l3 : Int64} {l5 : Int64} {l7 : Int64} {s0 : Nat} {s1 : Int64} : am_run 23 42 [none, some (.long l1), none, some (.long l3), none, some (.long l5), none, some (.long l7), none, none, none] [.ref s0, .long s1] w = (am_rl w s0 (nI 3)).bind fun v => am_run 23 44 [none, some (.long l1), none, some (.long l3), none, some (.long l5), none, some (.long l7), none, none, none] (.long v :: [.long s1]) w := by
  refine (bu (ls'' := [none, some (.long l1), none, some (.long l3), none, some (.long l5), none, some (.long l7), none, none, none]) (st' := [.int (nI 3), .ref s0, .long s1]) bf23_42 bf23_43 rfl rfl).trans ?_
  exact bh bf23_43 bf23_44 rfl (fun _ _ => am_ge_rf w) rfl
theorem bk23_44 {w : am_Wd} {l1 : Int64} {l3 : Int64} {l5 : Int64} {l7 : Int64} {s0 : Int64} {s1 : Int64} : am_run 23 44 [none, some (.long l1), none, some (.long l3), none, some (.long l5), none, some (.long l7), none, none, none] [.long s0, .long s1] w = some (.inl (some (.long ((((l1 ||| l3) ||| l5) ||| l7) ||| (bj_lushr (s1 &&& s0) (nI 1))))), w) := by
  refine (bu (ls'' := [none, some (.long l1), none, some (.long l3), none, some (.long l5), none, some (.long l7), none, none, none]) (st' := [.long (s1 &&& s0)]) bf23_44 bf23_45 rfl rfl).trans ?_
  refine (bu (ls'' := [none, some (.long l1), none, some (.long l3), none, some (.long l5), none, some (.long l7), none, none, none]) (st' := [.int (nI 1), .long (s1 &&& s0)]) bf23_45 bf23_46 rfl rfl).trans ?_
  refine (bu (ls'' := [none, some (.long l1), none, some (.long l3), none, some (.long l5), none, some (.long l7), none, none, none]) (st' := [.long (bj_lushr (s1 &&& s0) (nI 1))]) bf23_46 bf23_47 rfl rfl).trans ?_
  refine (bu (ls'' := [none, some (.long l1), none, some (.long l3), none, some (.long l5), none, some (.long l7), none, some (.long (bj_lushr (s1 &&& s0) (nI 1))), none]) (st' := []) bf23_47 bf23_49 rfl rfl).trans ?_
  refine (bu (ls'' := [none, none, none, some (.long l3), none, some (.long l5), none, some (.long l7), none, some (.long (bj_lushr (s1 &&& s0) (nI 1))), none]) (st' := [.long l1]) bf23_49 bf23_50 rfl rfl).trans ?_
  refine (bu (ls'' := [none, none, none, none, none, some (.long l5), none, some (.long l7), none, some (.long (bj_lushr (s1 &&& s0) (nI 1))), none]) (st' := [.long l3, .long l1]) bf23_50 bf23_51 rfl rfl).trans ?_
  refine (bu (ls'' := [none, none, none, none, none, some (.long l5), none, some (.long l7), none, some (.long (bj_lushr (s1 &&& s0) (nI 1))), none]) (st' := [.long (l1 ||| l3)]) bf23_51 bf23_52 rfl rfl).trans ?_
  refine (bu (ls'' := [none, none, none, none, none, none, none, some (.long l7), none, some (.long (bj_lushr (s1 &&& s0) (nI 1))), none]) (st' := [.long l5, .long (l1 ||| l3)]) bf23_52 bf23_54 rfl rfl).trans ?_
  refine (bu (ls'' := [none, none, none, none, none, none, none, some (.long l7), none, some (.long (bj_lushr (s1 &&& s0) (nI 1))), none]) (st' := [.long ((l1 ||| l3) ||| l5)]) bf23_54 bf23_55 rfl rfl).trans ?_
  refine (bu (ls'' := [none, none, none, none, none, none, none, none, none, some (.long (bj_lushr (s1 &&& s0) (nI 1))), none]) (st' := [.long l7, .long ((l1 ||| l3) ||| l5)]) bf23_55 bf23_57 rfl rfl).trans ?_
  refine (bu (ls'' := [none, none, none, none, none, none, none, none, none, some (.long (bj_lushr (s1 &&& s0) (nI 1))), none]) (st' := [.long (((l1 ||| l3) ||| l5) ||| l7)]) bf23_57 bf23_58 rfl rfl).trans ?_
  refine (bu (ls'' := [none, none, none, none, none, none, none, none, none, none, none]) (st' := [.long (bj_lushr (s1 &&& s0) (nI 1)), .long (((l1 ||| l3) ||| l5) ||| l7)]) bf23_58 bf23_60 rfl rfl).trans ?_
  refine (bu (ls'' := [none, none, none, none, none, none, none, none, none, none, none]) (st' := [.long ((((l1 ||| l3) ||| l5) ||| l7) ||| (bj_lushr (s1 &&& s0) (nI 1)))]) bf23_60 bf23_61 rfl rfl).trans ?_
  exact am_e2 bf23_61 rfl (am_ge_rf w)
theorem bf24_0 : am_fetch (am_mth 24) 0 = some (.aload_n 0, 1, [], []) := by decide +kernel
theorem bf24_1 : am_fetch (am_mth 24) 1 = some (.dup, 1, [], []) := by decide +kernel
theorem bf24_2 : am_fetch (am_mth 24) 2 = some (.getfield 197, 3, [0, 8, 8, 119], []) := by decide +kernel
theorem bf24_5 : am_fetch (am_mth 24) 5 = some (.iconst 1, 1, [], []) := by decide +kernel
theorem bf24_6 : am_fetch (am_mth 24) 6 = some (.iadd, 1, [], []) := by decide +kernel
theorem bf24_7 : am_fetch (am_mth 24) 7 = some (.putfield 197, 3, [0, 8, 8, 119], []) := by decide +kernel
theorem bf24_10 : am_fetch (am_mth 24) 10 = some (.aload_n 0, 1, [], []) := by decide +kernel
theorem bf24_11 : am_fetch (am_mth 24) 11 = some (.getfield 197, 3, [0, 8, 8, 119], [0]) := by decide +kernel
theorem bf24_14 : am_fetch (am_mth 24) 14 = some (.ireturn, 1, [0], [0]) := by decide +kernel
theorem bk24_0 {w : am_Wd} {l0 : Nat} : am_run 24 0 [some (.ref l0)] [] w = (am_gf w l0 8 8).bind fun v => am_run 24 5 [some (.ref l0)] (v :: [.ref l0]) w := by
  refine (bu (ls'' := [some (.ref l0)]) (st' := [.ref l0]) bf24_0 bf24_1 rfl rfl).trans ?_
  refine (bu (ls'' := [some (.ref l0)]) (st' := [.ref l0, .ref l0]) bf24_1 bf24_2 rfl rfl).trans ?_
  exact bh bf24_2 bf24_5 rfl (fun _ _ => am_ge_rf w) rfl
theorem bk24_5 {w : am_Wd} {l0 : Nat} {s0 : Int32} {s1 : Nat} : am_run 24 5 [some (.ref l0)] [.int s0, .ref s1] w = (am_pf w s1 8 8 (.int (s0 + (nI 1)))).bind fun w' => am_run 24 10 [some (.ref l0)] [] w' := by
  refine (bu (ls'' := [some (.ref l0)]) (st' := [.int (nI 1), .int s0, .ref s1]) bf24_5 bf24_6 rfl rfl).trans ?_
  refine (bu (ls'' := [some (.ref l0)]) (st' := [.int (s0 + (nI 1)), .ref s1]) bf24_6 bf24_7 rfl rfl).trans ?_
  exact bh bf24_7 bf24_10 rfl (bge_pf) rfl
theorem bk24_10 {w : am_Wd} {l0 : Nat} : am_run 24 10 [some (.ref l0)] [] w = (am_gf w l0 8 8).bind fun v => am_run 24 14 [none] (v :: []) w := by
  refine (bu (ls'' := [none]) (st' := [.ref l0]) bf24_10 bf24_11 rfl rfl).trans ?_
  exact bh bf24_11 bf24_14 rfl (fun _ _ => am_ge_rf w) rfl
theorem bk24_14 {w : am_Wd} {s0 : Int32} : am_run 24 14 [none] [.int s0] w = some (.inl (some (.int s0)), w) := by
  exact am_e2 bf24_14 rfl (am_ge_rf w)
theorem bf25_0 : am_fetch (am_mth 25) 0 = some (.lload_n 0, 1, [], [1, 3]) := by decide +kernel
theorem bf25_1 : am_fetch (am_mth 25) 1 = some (.ldc2_w 336, 3, [0, 31, 306], [0, 1, 3]) := by decide +kernel
theorem bf25_4 : am_fetch (am_mth 25) 4 = some (.lmul, 1, [], [0, 1, 3]) := by decide +kernel
theorem bf25_5 : am_fetch (am_mth 25) 5 = some (.lload_n 2, 1, [], [0, 1, 3]) := by decide +kernel
theorem bf25_6 : am_fetch (am_mth 25) 6 = some (.ladd, 1, [], [0, 1, 2, 3]) := by decide +kernel
theorem bf25_7 : am_fetch (am_mth 25) 7 = some (.lreturn, 1, [], [0, 1, 2, 3]) := by decide +kernel
theorem bk25_0 {w : am_Wd} {l0 : Int64} {l2 : Int64} : am_run 25 0 [some (.long l0), none, some (.long l2), none] [] w = some (.inl (some (.long ((l0 * (lN 31)) + l2))), w) := by
  refine (bu (ls'' := [none, none, some (.long l2), none]) (st' := [.long l0]) bf25_0 bf25_1 rfl rfl).trans ?_
  refine (bu (ls'' := [none, none, some (.long l2), none]) (st' := [.long (lN 31), .long l0]) bf25_1 bf25_4 rfl rfl).trans ?_
  refine (bu (ls'' := [none, none, some (.long l2), none]) (st' := [.long (l0 * (lN 31))]) bf25_4 bf25_5 rfl rfl).trans ?_
  refine (bu (ls'' := [none, none, none, none]) (st' := [.long l2, .long (l0 * (lN 31))]) bf25_5 bf25_6 rfl rfl).trans ?_
  refine (bu (ls'' := [none, none, none, none]) (st' := [.long ((l0 * (lN 31)) + l2)]) bf25_6 bf25_7 rfl rfl).trans ?_
  exact am_e2 bf25_7 rfl (am_ge_rf w)
theorem bf26_0 : am_fetch (am_mth 26) 0 = some (.iload_n 0, 1, [], []) := by decide +kernel
theorem bf26_1 : am_fetch (am_mth 26) 1 = some (.ifCond .eq 7, 3, [], [0]) := by decide +kernel
theorem bf26_4 : am_fetch (am_mth 26) 4 = some (.iconst 1, 1, [], [0]) := by decide +kernel
theorem bf26_5 : am_fetch (am_mth 26) 5 = some (.goto 4, 3, [], [0]) := by decide +kernel
theorem bf26_8 : am_fetch (am_mth 26) 8 = some (.iconst 0, 1, [], [0]) := by decide +kernel
theorem bf26_9 : am_fetch (am_mth 26) 9 = some (.ireturn, 1, [0], [0]) := by decide +kernel
theorem bk26_0 {w : am_Wd} {l0 : Int32} : am_run 26 0 [some (.int l0)] [] w = if l0 = nI 0 then am_run 26 8 [none] [] w else am_run 26 4 [none] [] w := by
  refine (bu (ls'' := [none]) (st' := [.int l0]) bf26_0 bf26_1 rfl rfl).trans ?_
  exact bifc bf26_1 rfl bf26_8 bf26_4 rfl rfl rfl
theorem bk26_8 {w : am_Wd}  : am_run 26 8 [none] [] w = am_run 26 9 [none] [.int (nI 0)] w := by
  refine (bu (ls'' := [none]) (st' := [.int (nI 0)]) bf26_8 bf26_9 rfl rfl).trans ?_
  rfl
theorem bk26_4 {w : am_Wd}  : am_run 26 4 [none] [] w = am_run 26 9 [none] [.int (nI 1)] w := by
  refine (bu (ls'' := [none]) (st' := [.int (nI 1)]) bf26_4 bf26_5 rfl rfl).trans ?_
  refine (bu (ls'' := [none]) (st' := [.int (nI 1)]) bf26_5 bf26_9 rfl rfl).trans ?_
  rfl
theorem bk26_9 {w : am_Wd} {s0 : Int32} : am_run 26 9 [none] [.int s0] w = some (.inl (some (.int s0)), w) := by
  exact am_e2 bf26_9 rfl (am_ge_rf w)
theorem bf27_0 : am_fetch (am_mth 27) 0 = some (.bipush 29, 2, [], []) := by decide +kernel
theorem bf27_2 : am_fetch (am_mth 27) 2 = some (.iload_n 0, 1, [], []) := by decide +kernel
theorem bf27_3 : am_fetch (am_mth 27) 3 = some (.imul, 1, [], [0]) := by decide +kernel
theorem bf27_4 : am_fetch (am_mth 27) 4 = some (.bipush 13, 2, [], [0]) := by decide +kernel
theorem bf27_6 : am_fetch (am_mth 27) 6 = some (.iadd, 1, [], [0]) := by decide +kernel
theorem bf27_7 : am_fetch (am_mth 27) 7 = some (.bipush 127, 2, [], [0]) := by decide +kernel
theorem bf27_9 : am_fetch (am_mth 27) 9 = some (.irem, 1, [], [0]) := by decide +kernel
theorem bf27_10 : am_fetch (am_mth 27) 10 = some (.ireturn, 1, [0], [0]) := by decide +kernel
theorem bk27_0 {w : am_Wd} {l0 : Int32} : am_run 27 0 [some (.int l0)] [] w = some (.inl (some (.int (bj_irem (((nI 29) * l0) + (nI 13)) (nI 127)))), w) := by
  refine (bu (ls'' := [some (.int l0)]) (st' := [.int (nI 29)]) bf27_0 bf27_2 rfl rfl).trans ?_
  refine (bu (ls'' := [none]) (st' := [.int l0, .int (nI 29)]) bf27_2 bf27_3 rfl rfl).trans ?_
  refine (bu (ls'' := [none]) (st' := [.int ((nI 29) * l0)]) bf27_3 bf27_4 rfl rfl).trans ?_
  refine (bu (ls'' := [none]) (st' := [.int (nI 13), .int ((nI 29) * l0)]) bf27_4 bf27_6 rfl rfl).trans ?_
  refine (bu (ls'' := [none]) (st' := [.int (((nI 29) * l0) + (nI 13))]) bf27_6 bf27_7 rfl rfl).trans ?_
  refine (bu (ls'' := [none]) (st' := [.int (nI 127), .int (((nI 29) * l0) + (nI 13))]) bf27_7 bf27_9 rfl rfl).trans ?_
  refine (bu (ls'' := [none]) (st' := [.int (bj_irem (((nI 29) * l0) + (nI 13)) (nI 127))]) bf27_9 bf27_10 rfl rfl).trans ?_
  exact am_e2 bf27_10 rfl (am_ge_rf w)
theorem bf28_0 : am_fetch (am_mth 28) 0 = some (.iload_n 0, 1, [], []) := by decide +kernel
theorem bf28_1 : am_fetch (am_mth 28) 1 = some (.ifCond .ne 14, 3, [], [0]) := by decide +kernel
theorem bf28_4 : am_fetch (am_mth 28) 4 = some (.new 338, 3, [2, 1, 226, 58, 267, 340, 342], [0]) := by decide +kernel
theorem bf28_7 : am_fetch (am_mth 28) 7 = some (.dup, 1, [], [0]) := by decide +kernel
theorem bf28_8 : am_fetch (am_mth 28) 8 = some (.ldc_w 340, 3, [1, 17, 267], [0]) := by decide +kernel
theorem bf28_11 : am_fetch (am_mth 28) 11 = some (.invokespecial 342, 3, [], [0]) := by decide +kernel
theorem bf28_14 : am_fetch (am_mth 28) 14 = some (.athrow, 1, [], [0]) := by decide +kernel
theorem bf28_15 : am_fetch (am_mth 28) 15 = some (.return_, 1, [], [0]) := by decide +kernel
theorem bk28_0 {w : am_Wd} {l0 : Int32} : am_run 28 0 [some (.int l0)] [] w = if ¬ l0 = nI 0 then am_run 28 15 [none] [] w else am_run 28 4 [none] [] w := by
  refine (bu (ls'' := [none]) (st' := [.int l0]) bf28_0 bf28_1 rfl rfl).trans ?_
  exact bifc bf28_1 rfl bf28_15 bf28_4 rfl rfl rfl
theorem bk28_15 {w : am_Wd}  : am_run 28 15 [none] [] w = some (.inl none, w) := by
  exact am_e2 bf28_15 rfl (am_ge_rf w)
theorem bk28_4 {w : am_Wd}  : am_run 28 4 [none] [] w = some (.inr (am_xn 1), am_jk w 1 6) := by
  exact am_e2 bf28_4 rfl (am_ge_jk _ _ _)
theorem bf29_0 : am_fetch (am_mth 29) 0 = some (.iload_n 0, 1, [], []) := by decide +kernel
theorem bf29_1 : am_fetch (am_mth 29) 1 = some (.ifCond .lt 9, 3, [], []) := by decide +kernel
theorem bf29_4 : am_fetch (am_mth 29) 4 = some (.iload_n 0, 1, [], []) := by decide +kernel
theorem bf29_5 : am_fetch (am_mth 29) 5 = some (.bipush 36, 2, [], [0]) := by decide +kernel
theorem bf29_7 : am_fetch (am_mth 29) 7 = some (.if_icmp .lt 14, 3, [], [0]) := by decide +kernel
theorem bf29_10 : am_fetch (am_mth 29) 10 = some (.new 223, 3, [2, 0, 314, 56, 323, 343, 227], [0]) := by decide +kernel
theorem bf29_13 : am_fetch (am_mth 29) 13 = some (.dup, 1, [], [0]) := by decide +kernel
theorem bf29_14 : am_fetch (am_mth 29) 14 = some (.ldc_w 343, 3, [1, 18, 323], [0]) := by decide +kernel
theorem bf29_17 : am_fetch (am_mth 29) 17 = some (.invokespecial 227, 3, [], [0]) := by decide +kernel
theorem bf29_20 : am_fetch (am_mth 29) 20 = some (.athrow, 1, [], [0]) := by decide +kernel
theorem bf29_21 : am_fetch (am_mth 29) 21 = some (.return_, 1, [], [0]) := by decide +kernel
theorem bk29_0 {w : am_Wd} {l0 : Int32} : am_run 29 0 [some (.int l0)] [] w = if l0 < nI 0 then am_run 29 10 [none] [] w else am_run 29 4 [some (.int l0)] [] w := by
  refine (bu (ls'' := [some (.int l0)]) (st' := [.int l0]) bf29_0 bf29_1 rfl rfl).trans ?_
  exact bifc bf29_1 rfl bf29_10 bf29_4 rfl rfl rfl
theorem bk29_10 {w : am_Wd}  : am_run 29 10 [none] [] w = some (.inr (am_xn 0), am_jk w 1 6) := by
  exact am_e2 bf29_10 rfl (am_ge_jk _ _ _)
theorem bk29_4 {w : am_Wd} {l0 : Int32} : am_run 29 4 [some (.int l0)] [] w = if l0 < (nI 36) then am_run 29 21 [none] [] w else am_run 29 10 [none] [] w := by
  refine (bu (ls'' := [none]) (st' := [.int l0]) bf29_4 bf29_5 rfl rfl).trans ?_
  refine (bu (ls'' := [none]) (st' := [.int (nI 36), .int l0]) bf29_5 bf29_7 rfl rfl).trans ?_
  exact bic bf29_7 rfl bf29_21 bf29_10 rfl rfl rfl
theorem bk29_21 {w : am_Wd}  : am_run 29 21 [none] [] w = some (.inl none, w) := by
  exact am_e2 bf29_21 rfl (am_ge_rf w)
theorem bf30_0 : am_fetch (am_mth 30) 0 = some (.iload_n 0, 1, [], []) := by decide +kernel
theorem bf30_1 : am_fetch (am_mth 30) 1 = some (.ifCond .lt 8, 3, [], []) := by decide +kernel
theorem bf30_4 : am_fetch (am_mth 30) 4 = some (.iload_n 0, 1, [], []) := by decide +kernel
theorem bf30_5 : am_fetch (am_mth 30) 5 = some (.iconst 4, 1, [], [0]) := by decide +kernel
theorem bf30_6 : am_fetch (am_mth 30) 6 = some (.if_icmp .lt 14, 3, [], [0]) := by decide +kernel
theorem bf30_9 : am_fetch (am_mth 30) 9 = some (.new 223, 3, [2, 0, 314, 56, 333, 345, 227], [0]) := by decide +kernel
theorem bf30_12 : am_fetch (am_mth 30) 12 = some (.dup, 1, [], [0]) := by decide +kernel
theorem bf30_13 : am_fetch (am_mth 30) 13 = some (.ldc_w 345, 3, [1, 19, 333], [0]) := by decide +kernel
theorem bf30_16 : am_fetch (am_mth 30) 16 = some (.invokespecial 227, 3, [], [0]) := by decide +kernel
theorem bf30_19 : am_fetch (am_mth 30) 19 = some (.athrow, 1, [], [0]) := by decide +kernel
theorem bf30_20 : am_fetch (am_mth 30) 20 = some (.return_, 1, [], [0]) := by decide +kernel
theorem bk30_0 {w : am_Wd} {l0 : Int32} : am_run 30 0 [some (.int l0)] [] w = if l0 < nI 0 then am_run 30 9 [none] [] w else am_run 30 4 [some (.int l0)] [] w := by
  refine (bu (ls'' := [some (.int l0)]) (st' := [.int l0]) bf30_0 bf30_1 rfl rfl).trans ?_
  exact bifc bf30_1 rfl bf30_9 bf30_4 rfl rfl rfl
theorem bk30_9 {w : am_Wd}  : am_run 30 9 [none] [] w = some (.inr (am_xn 0), am_jk w 1 6) := by
  exact am_e2 bf30_9 rfl (am_ge_jk _ _ _)
theorem bk30_4 {w : am_Wd} {l0 : Int32} : am_run 30 4 [some (.int l0)] [] w = if l0 < (nI 4) then am_run 30 20 [none] [] w else am_run 30 9 [none] [] w := by
  refine (bu (ls'' := [none]) (st' := [.int l0]) bf30_4 bf30_5 rfl rfl).trans ?_
  refine (bu (ls'' := [none]) (st' := [.int (nI 4), .int l0]) bf30_5 bf30_6 rfl rfl).trans ?_
  exact bic bf30_6 rfl bf30_20 bf30_9 rfl rfl rfl
theorem bk30_20 {w : am_Wd}  : am_run 30 20 [none] [] w = some (.inl none, w) := by
  exact am_e2 bf30_20 rfl (am_ge_rf w)
theorem bf31_0 : am_fetch (am_mth 31) 0 = some (.iload_n 1, 1, [], []) := by decide +kernel
theorem bf31_1 : am_fetch (am_mth 31) 1 = some (.ifCond .lt 21, 3, [], []) := by decide +kernel
theorem bf31_4 : am_fetch (am_mth 31) 4 = some (.iload_n 1, 1, [], []) := by decide +kernel
theorem bf31_5 : am_fetch (am_mth 31) 5 = some (.aload_n 0, 1, [], []) := by decide +kernel
theorem bf31_6 : am_fetch (am_mth 31) 6 = some (.getfield 18, 3, [0, 8, 1, 112], []) := by decide +kernel
theorem bf31_9 : am_fetch (am_mth 31) 9 = some (.arraylength, 1, [], []) := by decide +kernel
theorem bf31_10 : am_fetch (am_mth 31) 10 = some (.if_icmp .ge 12, 3, [], []) := by decide +kernel
theorem bf31_13 : am_fetch (am_mth 31) 13 = some (.aload_n 0, 1, [], []) := by decide +kernel
theorem bf31_14 : am_fetch (am_mth 31) 14 = some (.getfield 18, 3, [0, 8, 1, 112], []) := by decide +kernel
theorem bf31_17 : am_fetch (am_mth 31) 17 = some (.iload_n 1, 1, [], []) := by decide +kernel
theorem bf31_18 : am_fetch (am_mth 31) 18 = some (.aaload, 1, [], []) := by decide +kernel
theorem bf31_19 : am_fetch (am_mth 31) 19 = some (.ifnonnull 14, 3, [], []) := by decide +kernel
theorem bf31_22 : am_fetch (am_mth 31) 22 = some (.new 223, 3, [2, 0, 314, 56, 356, 347, 227], [0, 1]) := by decide +kernel
theorem bf31_25 : am_fetch (am_mth 31) 25 = some (.dup, 1, [], [0, 1]) := by decide +kernel
theorem bf31_26 : am_fetch (am_mth 31) 26 = some (.ldc_w 347, 3, [1, 20, 356], [0, 1]) := by decide +kernel
theorem bf31_29 : am_fetch (am_mth 31) 29 = some (.invokespecial 227, 3, [], [0, 1]) := by decide +kernel
theorem bf31_32 : am_fetch (am_mth 31) 32 = some (.athrow, 1, [], [0, 1]) := by decide +kernel
theorem bf31_33 : am_fetch (am_mth 31) 33 = some (.aload_n 0, 1, [], []) := by decide +kernel
theorem bf31_34 : am_fetch (am_mth 31) 34 = some (.getfield 18, 3, [0, 8, 1, 112], [0]) := by decide +kernel
theorem bf31_37 : am_fetch (am_mth 31) 37 = some (.iload_n 1, 1, [], [0]) := by decide +kernel
theorem bf31_38 : am_fetch (am_mth 31) 38 = some (.aaload, 1, [], [0, 1]) := by decide +kernel
theorem bf31_39 : am_fetch (am_mth 31) 39 = some (.areturn, 1, [], [0, 1]) := by decide +kernel
theorem bk31_0 {w : am_Wd} {l0 : Nat} {l1 : Int32} : am_run 31 0 [some (.ref l0), some (.int l1)] [] w = if l1 < nI 0 then am_run 31 22 [none, none] [] w else am_run 31 4 [some (.ref l0), some (.int l1)] [] w := by
  refine (bu (ls'' := [some (.ref l0), some (.int l1)]) (st' := [.int l1]) bf31_0 bf31_1 rfl rfl).trans ?_
  exact bifc bf31_1 rfl bf31_22 bf31_4 rfl rfl rfl
theorem bk31_22 {w : am_Wd}  : am_run 31 22 [none, none] [] w = some (.inr (am_xn 0), am_jk w 1 6) := by
  exact am_e2 bf31_22 rfl (am_ge_jk _ _ _)
theorem bk31_4 {w : am_Wd} {l0 : Nat} {l1 : Int32} : am_run 31 4 [some (.ref l0), some (.int l1)] [] w = (am_gf w l0 8 1).bind fun v => am_run 31 9 [some (.ref l0), some (.int l1)] (v :: [.int l1]) w := by
  refine (bu (ls'' := [some (.ref l0), some (.int l1)]) (st' := [.int l1]) bf31_4 bf31_5 rfl rfl).trans ?_
  refine (bu (ls'' := [some (.ref l0), some (.int l1)]) (st' := [.ref l0, .int l1]) bf31_5 bf31_6 rfl rfl).trans ?_
  exact bh bf31_6 bf31_9 rfl (fun _ _ => am_ge_rf w) rfl
theorem bk31_9 {w : am_Wd} {l0 : Nat} {l1 : Int32} {s0 : Nat} {s1 : Int32} : am_run 31 9 [some (.ref l0), some (.int l1)] [.ref s0, .int s1] w = (am_len w s0).bind fun v => am_run 31 10 [some (.ref l0), some (.int l1)] (.int (nI v) :: [.int s1]) w := by
  exact bh bf31_9 bf31_10 rfl (fun _ _ => am_ge_rf w) rfl
theorem bk31_10 {w : am_Wd} {l0 : Nat} {l1 : Int32} {s0 : Int32} {s1 : Int32} : am_run 31 10 [some (.ref l0), some (.int l1)] [.int s0, .int s1] w = if s0 ≤ s1 then am_run 31 22 [none, none] [] w else am_run 31 13 [some (.ref l0), some (.int l1)] [] w := by
  exact bic bf31_10 rfl bf31_22 bf31_13 rfl rfl rfl
theorem bk31_13 {w : am_Wd} {l0 : Nat} {l1 : Int32} : am_run 31 13 [some (.ref l0), some (.int l1)] [] w = (am_gf w l0 8 1).bind fun v => am_run 31 17 [some (.ref l0), some (.int l1)] (v :: []) w := by
  refine (bu (ls'' := [some (.ref l0), some (.int l1)]) (st' := [.ref l0]) bf31_13 bf31_14 rfl rfl).trans ?_
  exact bh bf31_14 bf31_17 rfl (fun _ _ => am_ge_rf w) rfl
theorem bk31_17 {w : am_Wd} {l0 : Nat} {l1 : Int32} {s0 : Nat} : am_run 31 17 [some (.ref l0), some (.int l1)] [.ref s0] w = (am_rq w s0 l1).bind fun v => am_run 31 19 [some (.ref l0), some (.int l1)] (v :: []) w := by
  refine (bu (ls'' := [some (.ref l0), some (.int l1)]) (st' := [.int l1, .ref s0]) bf31_17 bf31_18 rfl rfl).trans ?_
  exact bh bf31_18 bf31_19 rfl (fun _ _ => am_ge_rf w) rfl
theorem bk31_19 {w : am_Wd} {l0 : Nat} {l1 : Int32} {s0 : Nat} : am_run 31 19 [some (.ref l0), some (.int l1)] [.ref s0] w = (am_gf w l0 8 1).bind fun v => am_run 31 37 [none, some (.int l1)] (v :: []) w := by
  refine (bu (ls'' := [some (.ref l0), some (.int l1)]) (st' := []) bf31_19 bf31_33 rfl rfl).trans ?_
  refine (bu (ls'' := [none, some (.int l1)]) (st' := [.ref l0]) bf31_33 bf31_34 rfl rfl).trans ?_
  exact bh bf31_34 bf31_37 rfl (fun _ _ => am_ge_rf w) rfl
theorem bk31_19a {w : am_Wd} {l0 : Nat} {l1 : Int32} : am_run 31 19 [some (.ref l0), some (.int l1)] [.null] w = am_run 31 22 [none, none] [] w := by
  refine (bu (ls'' := [none, none]) (st' := []) bf31_19 bf31_22 rfl rfl).trans ?_
  rfl
theorem bk31_37 {w : am_Wd} {l1 : Int32} {s0 : Nat} : am_run 31 37 [none, some (.int l1)] [.ref s0] w = (am_rq w s0 l1).bind fun v => am_run 31 39 [none, none] (v :: []) w := by
  refine (bu (ls'' := [none, none]) (st' := [.int l1, .ref s0]) bf31_37 bf31_38 rfl rfl).trans ?_
  exact bh bf31_38 bf31_39 rfl (fun _ _ => am_ge_rf w) rfl
theorem bk31_39 {w : am_Wd} {s0 : Nat} : am_run 31 39 [none, none] [.ref s0] w = some (.inl (some (.ref s0)), w) := by
  exact am_e2 bf31_39 rfl (am_ge_rf w)
-- bk31_39a: null answered
theorem bf32_0 : am_fetch (am_mth 32) 0 = some (.aload_n 1, 1, [], []) := by decide +kernel
theorem bf32_1 : am_fetch (am_mth 32) 1 = some (.dup, 1, [], []) := by decide +kernel
theorem bf32_2 : am_fetch (am_mth 32) 2 = some (.getfield 355, 3, [1, 6, 6, 622], []) := by decide +kernel
theorem bf32_5 : am_fetch (am_mth 32) 5 = some (.iconst 1, 1, [], []) := by decide +kernel
theorem bf32_6 : am_fetch (am_mth 32) 6 = some (.iadd, 1, [], []) := by decide +kernel
theorem bf32_7 : am_fetch (am_mth 32) 7 = some (.putfield 355, 3, [1, 6, 6, 622], []) := by decide +kernel
theorem bf32_10 : am_fetch (am_mth 32) 10 = some (.aload_n 1, 1, [], []) := by decide +kernel
theorem bf32_11 : am_fetch (am_mth 32) 11 = some (.dup, 1, [], [1]) := by decide +kernel
theorem bf32_12 : am_fetch (am_mth 32) 12 = some (.getfield 158, 3, [1, 6, 4, 619], [1]) := by decide +kernel
theorem bf32_15 : am_fetch (am_mth 32) 15 = some (.iconst 1, 1, [], [1]) := by decide +kernel
theorem bf32_16 : am_fetch (am_mth 32) 16 = some (.isub, 1, [], [1]) := by decide +kernel
theorem bf32_17 : am_fetch (am_mth 32) 17 = some (.putfield 158, 3, [1, 6, 4, 619], [1]) := by decide +kernel
theorem bf32_20 : am_fetch (am_mth 32) 20 = some (.aload_n 0, 1, [], [1]) := by decide +kernel
theorem bf32_21 : am_fetch (am_mth 32) 21 = some (.dup, 1, [], [0, 1]) := by decide +kernel
theorem bf32_22 : am_fetch (am_mth 32) 22 = some (.getfield 192, 3, [0, 8, 3, 114], [0, 1]) := by decide +kernel
theorem bf32_25 : am_fetch (am_mth 32) 25 = some (.iconst 1, 1, [], [0, 1]) := by decide +kernel
theorem bf32_26 : am_fetch (am_mth 32) 26 = some (.iadd, 1, [], [0, 1]) := by decide +kernel
theorem bf32_27 : am_fetch (am_mth 32) 27 = some (.putfield 192, 3, [0, 8, 3, 114], [0, 1]) := by decide +kernel
theorem bf32_30 : am_fetch (am_mth 32) 30 = some (.return_, 1, [], [0, 1]) := by decide +kernel
theorem bk32_0 {w : am_Wd} {l0 : Nat} {l1 : Nat} : am_run 32 0 [some (.ref l0), some (.ref l1)] [] w = (am_gf w l1 6 6).bind fun v => am_run 32 5 [some (.ref l0), some (.ref l1)] (v :: [.ref l1]) w := by
  refine (bu (ls'' := [some (.ref l0), some (.ref l1)]) (st' := [.ref l1]) bf32_0 bf32_1 rfl rfl).trans ?_
  refine (bu (ls'' := [some (.ref l0), some (.ref l1)]) (st' := [.ref l1, .ref l1]) bf32_1 bf32_2 rfl rfl).trans ?_
  exact bh bf32_2 bf32_5 rfl (fun _ _ => am_ge_rf w) rfl
theorem bk32_5 {w : am_Wd} {l0 : Nat} {l1 : Nat} {s0 : Int32} {s1 : Nat} : am_run 32 5 [some (.ref l0), some (.ref l1)] [.int s0, .ref s1] w = (am_pf w s1 6 6 (.int (s0 + (nI 1)))).bind fun w' => am_run 32 10 [some (.ref l0), some (.ref l1)] [] w' := by
  refine (bu (ls'' := [some (.ref l0), some (.ref l1)]) (st' := [.int (nI 1), .int s0, .ref s1]) bf32_5 bf32_6 rfl rfl).trans ?_
  refine (bu (ls'' := [some (.ref l0), some (.ref l1)]) (st' := [.int (s0 + (nI 1)), .ref s1]) bf32_6 bf32_7 rfl rfl).trans ?_
  exact bh bf32_7 bf32_10 rfl (bge_pf) rfl
theorem bk32_10 {w : am_Wd} {l0 : Nat} {l1 : Nat} : am_run 32 10 [some (.ref l0), some (.ref l1)] [] w = (am_gf w l1 6 4).bind fun v => am_run 32 15 [some (.ref l0), none] (v :: [.ref l1]) w := by
  refine (bu (ls'' := [some (.ref l0), none]) (st' := [.ref l1]) bf32_10 bf32_11 rfl rfl).trans ?_
  refine (bu (ls'' := [some (.ref l0), none]) (st' := [.ref l1, .ref l1]) bf32_11 bf32_12 rfl rfl).trans ?_
  exact bh bf32_12 bf32_15 rfl (fun _ _ => am_ge_rf w) rfl
theorem bk32_15 {w : am_Wd} {l0 : Nat} {s0 : Int32} {s1 : Nat} : am_run 32 15 [some (.ref l0), none] [.int s0, .ref s1] w = (am_pf w s1 6 4 (.int (s0 - (nI 1)))).bind fun w' => am_run 32 20 [some (.ref l0), none] [] w' := by
  refine (bu (ls'' := [some (.ref l0), none]) (st' := [.int (nI 1), .int s0, .ref s1]) bf32_15 bf32_16 rfl rfl).trans ?_
  refine (bu (ls'' := [some (.ref l0), none]) (st' := [.int (s0 - (nI 1)), .ref s1]) bf32_16 bf32_17 rfl rfl).trans ?_
  exact bh bf32_17 bf32_20 rfl (bge_pf) rfl
theorem bk32_20 {w : am_Wd} {l0 : Nat} : am_run 32 20 [some (.ref l0), none] [] w = (am_gf w l0 8 3).bind fun v => am_run 32 25 [none, none] (v :: [.ref l0]) w := by
  refine (bu (ls'' := [none, none]) (st' := [.ref l0]) bf32_20 bf32_21 rfl rfl).trans ?_
  refine (bu (ls'' := [none, none]) (st' := [.ref l0, .ref l0]) bf32_21 bf32_22 rfl rfl).trans ?_
  exact bh bf32_22 bf32_25 rfl (fun _ _ => am_ge_rf w) rfl
theorem bk32_25 {w : am_Wd} {s0 : Int32} {s1 : Nat} : am_run 32 25 [none, none] [.int s0, .ref s1] w = (am_pf w s1 8 3 (.int (s0 + (nI 1)))).bind fun w' => am_run 32 30 [none, none] [] w' := by
  refine (bu (ls'' := [none, none]) (st' := [.int (nI 1), .int s0, .ref s1]) bf32_25 bf32_26 rfl rfl).trans ?_
  refine (bu (ls'' := [none, none]) (st' := [.int (s0 + (nI 1)), .ref s1]) bf32_26 bf32_27 rfl rfl).trans ?_
  exact bh bf32_27 bf32_30 rfl (bge_pf) rfl
theorem bk32_30 {w : am_Wd}  : am_run 32 30 [none, none] [] w = some (.inl none, w) := by
  exact am_e2 bf32_30 rfl (am_ge_rf w)
theorem bf33_0 : am_fetch (am_mth 33) 0 = some (.aload_n 0, 1, [], []) := by decide +kernel
theorem bf33_1 : am_fetch (am_mth 33) 1 = some (.getfield 192, 3, [0, 8, 3, 114], [0]) := by decide +kernel
theorem bf33_4 : am_fetch (am_mth 33) 4 = some (.bipush 60, 2, [], [0]) := by decide +kernel
theorem bf33_6 : am_fetch (am_mth 33) 6 = some (.idiv, 1, [], [0]) := by decide +kernel
theorem bf33_7 : am_fetch (am_mth 33) 7 = some (.bipush 24, 2, [], [0]) := by decide +kernel
theorem bf33_9 : am_fetch (am_mth 33) 9 = some (.irem, 1, [], [0]) := by decide +kernel
theorem bf33_10 : am_fetch (am_mth 33) 10 = some (.ireturn, 1, [0], [0]) := by decide +kernel
theorem bk33_0 {w : am_Wd} {l0 : Nat} : am_run 33 0 [some (.ref l0)] [] w = (am_gf w l0 8 3).bind fun v => am_run 33 4 [none] (v :: []) w := by
  refine (bu (ls'' := [none]) (st' := [.ref l0]) bf33_0 bf33_1 rfl rfl).trans ?_
  exact bh bf33_1 bf33_4 rfl (fun _ _ => am_ge_rf w) rfl
theorem bk33_4 {w : am_Wd} {s0 : Int32} : am_run 33 4 [none] [.int s0] w = some (.inl (some (.int (bj_irem (s0 / (nI 60)) (nI 24)))), w) := by
  refine (bu (ls'' := [none]) (st' := [.int (nI 60), .int s0]) bf33_4 bf33_6 rfl rfl).trans ?_
  refine (bu (ls'' := [none]) (st' := [.int (s0 / (nI 60))]) bf33_6 bf33_7 rfl rfl).trans ?_
  refine (bu (ls'' := [none]) (st' := [.int (nI 24), .int (s0 / (nI 60))]) bf33_7 bf33_9 rfl rfl).trans ?_
  refine (bu (ls'' := [none]) (st' := [.int (bj_irem (s0 / (nI 60)) (nI 24))]) bf33_9 bf33_10 rfl rfl).trans ?_
  exact am_e2 bf33_10 rfl (am_ge_rf w)
theorem bf34_0 : am_fetch (am_mth 34) 0 = some (.iload_n 0, 1, [], []) := by decide +kernel
theorem bf34_1 : am_fetch (am_mth 34) 1 = some (.lookupswitch 33 #[(1, 27), (2, 30)], 27, [], [0]) := by decide +kernel
theorem bf34_28 : am_fetch (am_mth 34) 28 = some (.bipush 124, 2, [], [0]) := by decide +kernel
theorem bf34_30 : am_fetch (am_mth 34) 30 = some (.ireturn, 1, [2], [0]) := by decide +kernel
theorem bf34_31 : am_fetch (am_mth 34) 31 = some (.bipush 47, 2, [], [0]) := by decide +kernel
theorem bf34_33 : am_fetch (am_mth 34) 33 = some (.ireturn, 1, [2], [0]) := by decide +kernel
theorem bf34_34 : am_fetch (am_mth 34) 34 = some (.bipush 32, 2, [], [0]) := by decide +kernel
theorem bf34_36 : am_fetch (am_mth 34) 36 = some (.ireturn, 1, [2], [0]) := by decide +kernel
theorem bk34_0 {w : am_Wd} {l0 : Int32} : am_run 34 0 [some (.int l0)] [] w = if l0 = (nI 1) then am_run 34 28 [none] [] w else if l0 = (nI 2) then am_run 34 31 [none] [] w else am_run 34 34 [none] [] w := by
  refine (bu (ls'' := [none]) (st' := [.int l0]) bf34_0 bf34_1 rfl rfl).trans ?_
  refine bsw (fun q => ?_) (fun q0 => ?_)
  · exact bu (ls' := [none]) (ls'' := [none]) (st' := []) bf34_1 bf34_28 (by rw [q]; rfl) rfl
  refine bsw (fun q => ?_) (fun q1 => ?_)
  · exact bu (ls' := [none]) (ls'' := [none]) (st' := []) bf34_1 bf34_31 (by rw [q]; rfl) rfl
  exact bsl bf34_1 bf34_34 rfl rfl (bcon (by rfl) q0 (bcon (by rfl) q1 (bnil))) rfl
theorem bk34_28 {w : am_Wd}  : am_run 34 28 [none] [] w = some (.inl (some (.int (nI 124))), w) := by
  refine (bu (ls'' := [none]) (st' := [.int (nI 124)]) bf34_28 bf34_30 rfl rfl).trans ?_
  exact am_e2 bf34_30 rfl (am_ge_rf w)
theorem bk34_31 {w : am_Wd}  : am_run 34 31 [none] [] w = some (.inl (some (.int (nI 47))), w) := by
  refine (bu (ls'' := [none]) (st' := [.int (nI 47)]) bf34_31 bf34_33 rfl rfl).trans ?_
  exact am_e2 bf34_33 rfl (am_ge_rf w)
theorem bk34_34 {w : am_Wd}  : am_run 34 34 [none] [] w = some (.inl (some (.int (nI 32))), w) := by
  refine (bu (ls'' := [none]) (st' := [.int (nI 32)]) bf34_34 bf34_36 rfl rfl).trans ?_
  exact am_e2 bf34_36 rfl (am_ge_rf w)
theorem bf35_0 : am_fetch (am_mth 35) 0 = some (.aload_n 0, 1, [], []) := by decide +kernel
theorem bf35_1 : am_fetch (am_mth 35) 1 = some (.invokespecial 1, 3, [1, 484, 85, 86], [0]) := by decide +kernel
theorem bf35_4 : am_fetch (am_mth 35) 4 = some (.return_, 1, [], [0]) := by decide +kernel
theorem bk35_0 {w : am_Wd} {l0 : Nat} : am_run 35 0 [some (.ref l0)] [] w = some (.inl none, w) := by
  refine (bu (ls'' := [none]) (st' := [.ref l0]) bf35_0 bf35_1 rfl rfl).trans ?_
  refine (bu (ls'' := [none]) (st' := []) bf35_1 bf35_4 rfl rfl).trans ?_
  exact am_e2 bf35_4 rfl (am_ge_rf w)
theorem bf36_0 : am_fetch (am_mth 36) 0 = some (.aload_n 0, 1, [], []) := by decide +kernel
theorem bf36_1 : am_fetch (am_mth 36) 1 = some (.invokespecial 3, 3, [1, 1300, 85, 86], []) := by decide +kernel
theorem bf36_4 : am_fetch (am_mth 36) 4 = some (.aload_n 0, 1, [], []) := by decide +kernel
theorem bf36_5 : am_fetch (am_mth 36) 5 = some (.sipush 144, 3, [], []) := by decide +kernel
theorem bf36_8 : am_fetch (am_mth 36) 8 = some (.newarray .boolean, 2, [2, 1196], []) := by decide +kernel
theorem bf36_10 : am_fetch (am_mth 36) 10 = some (.putfield 9, 3, [0, 10, 3, 1306], []) := by decide +kernel
theorem bf36_13 : am_fetch (am_mth 36) 13 = some (.aload_n 0, 1, [], []) := by decide +kernel
theorem bf36_14 : am_fetch (am_mth 36) 14 = some (.bipush 36, 2, [], [0]) := by decide +kernel
theorem bf36_16 : am_fetch (am_mth 36) 16 = some (.iconst 2, 1, [], [0]) := by decide +kernel
theorem bf36_17 : am_fetch (am_mth 36) 17 = some (.multianewarray 15 2, 4, [6, 1301, 1166, 108], [0]) := by decide +kernel
theorem bf36_21 : am_fetch (am_mth 36) 21 = some (.putfield 17, 3, [0, 10, 4, 1308], [0]) := by decide +kernel
theorem bf36_24 : am_fetch (am_mth 36) 24 = some (.return_, 1, [], [0]) := by decide +kernel
theorem bk36_0 {w : am_Wd} {l0 : Nat} : am_run 36 0 [some (.ref l0)] [] w = (am_na w 2 (nI 144)).bind fun w' => am_run 36 10 [some (.ref l0)] (.ref w.2.1 :: [.ref l0]) w' := by
  refine (bu (ls'' := [some (.ref l0)]) (st' := [.ref l0]) bf36_0 bf36_1 rfl rfl).trans ?_
  refine (bu (ls'' := [some (.ref l0)]) (st' := []) bf36_1 bf36_4 rfl rfl).trans ?_
  refine (bu (ls'' := [some (.ref l0)]) (st' := [.ref l0]) bf36_4 bf36_5 rfl rfl).trans ?_
  refine (bu (ls'' := [some (.ref l0)]) (st' := [.int (nI 144), .ref l0]) bf36_5 bf36_8 rfl rfl).trans ?_
  exact bh bf36_8 bf36_10 rfl (bge_na) rfl
theorem bk36_10 {w : am_Wd} {l0 : Nat} {s0 : Nat} {s1 : Nat} : am_run 36 10 [some (.ref l0)] [.ref s0, .ref s1] w = (am_pf w s1 10 3 (.ref s0)).bind fun w' => am_run 36 13 [some (.ref l0)] [] w' := by
  exact bh bf36_10 bf36_13 rfl (bge_pf) rfl
theorem bk36_13 {w : am_Wd} {l0 : Nat} : am_run 36 13 [some (.ref l0)] [] w = (am_mn w (nI 36) (nI 2)).bind fun w' => am_run 36 21 [none] (.ref w.2.1 :: [.ref l0]) w' := by
  refine (bu (ls'' := [none]) (st' := [.ref l0]) bf36_13 bf36_14 rfl rfl).trans ?_
  refine (bu (ls'' := [none]) (st' := [.int (nI 36), .ref l0]) bf36_14 bf36_16 rfl rfl).trans ?_
  refine (bu (ls'' := [none]) (st' := [.int (nI 2), .int (nI 36), .ref l0]) bf36_16 bf36_17 rfl rfl).trans ?_
  exact bh bf36_17 bf36_21 rfl (bge_mn) rfl
theorem bk36_21 {w : am_Wd} {s0 : Nat} {s1 : Nat} : am_run 36 21 [none] [.ref s0, .ref s1] w = (am_pf w s1 10 4 (.ref s0)).bind fun w' => am_run 36 24 [none] [] w' := by
  exact bh bf36_21 bf36_24 rfl (bge_pf) rfl
theorem bk36_24 {w : am_Wd}  : am_run 36 24 [none] [] w = some (.inl none, w) := by
  exact am_e2 bf36_24 rfl (am_ge_rf w)
theorem bf37_0 : am_fetch (am_mth 37) 0 = some (.iconst 0, 1, [], [1, 2, 3, 4, 5]) := by decide +kernel
theorem bf37_1 : am_fetch (am_mth 37) 1 = some (.istore_n 1, 1, [], [1, 2, 3, 4, 5]) := by decide +kernel
theorem bf37_2 : am_fetch (am_mth 37) 2 = some (.aload_n 0, 1, [], [2, 3, 4, 5]) := by decide +kernel
theorem bf37_3 : am_fetch (am_mth 37) 3 = some (.getfield 9, 3, [0, 10, 3, 1306], [0, 2, 3, 4, 5]) := by decide +kernel
theorem bf37_6 : am_fetch (am_mth 37) 6 = some (.astore_n 2, 1, [], [0, 2, 3, 4, 5]) := by decide +kernel
theorem bf37_7 : am_fetch (am_mth 37) 7 = some (.aload_n 2, 1, [], [0, 3, 4, 5]) := by decide +kernel
theorem bf37_8 : am_fetch (am_mth 37) 8 = some (.arraylength, 1, [], [0, 3, 4, 5]) := by decide +kernel
theorem bf37_9 : am_fetch (am_mth 37) 9 = some (.istore_n 3, 1, [], [0, 3, 4, 5]) := by decide +kernel
theorem bf37_10 : am_fetch (am_mth 37) 10 = some (.iconst 0, 1, [], [0, 4, 5]) := by decide +kernel
theorem bf37_11 : am_fetch (am_mth 37) 11 = some (.istore 4, 2, [], [0, 4, 5]) := by decide +kernel
theorem bf37_13 : am_fetch (am_mth 37) 13 = some (.iload 4, 2, [], [0, 5]) := by decide +kernel
theorem bf37_15 : am_fetch (am_mth 37) 15 = some (.iload_n 3, 1, [], [0, 5]) := by decide +kernel
theorem bf37_16 : am_fetch (am_mth 37) 16 = some (.if_icmp .ge 28, 3, [], [0, 5]) := by decide +kernel
theorem bf37_19 : am_fetch (am_mth 37) 19 = some (.aload_n 2, 1, [], [0, 5]) := by decide +kernel
theorem bf37_20 : am_fetch (am_mth 37) 20 = some (.iload 4, 2, [], [0, 5]) := by decide +kernel
theorem bf37_22 : am_fetch (am_mth 37) 22 = some (.baload, 1, [2], [0, 5]) := by decide +kernel
theorem bf37_23 : am_fetch (am_mth 37) 23 = some (.istore 5, 2, [], [0, 5]) := by decide +kernel
theorem bf37_25 : am_fetch (am_mth 37) 25 = some (.iload_n 1, 1, [], [0]) := by decide +kernel
theorem bf37_26 : am_fetch (am_mth 37) 26 = some (.iload 5, 2, [], [0, 1]) := by decide +kernel
theorem bf37_28 : am_fetch (am_mth 37) 28 = some (.ifCond .eq 7, 3, [], [0, 1, 5]) := by decide +kernel
theorem bf37_31 : am_fetch (am_mth 37) 31 = some (.iconst 1, 1, [], [0, 1, 5]) := by decide +kernel
theorem bf37_32 : am_fetch (am_mth 37) 32 = some (.goto 4, 3, [], [0, 1, 5]) := by decide +kernel
theorem bf37_35 : am_fetch (am_mth 37) 35 = some (.iconst 0, 1, [], [0, 1, 5]) := by decide +kernel
theorem bf37_36 : am_fetch (am_mth 37) 36 = some (.iadd, 1, [], [0, 1, 5]) := by decide +kernel
theorem bf37_37 : am_fetch (am_mth 37) 37 = some (.istore_n 1, 1, [], [0, 1, 5]) := by decide +kernel
theorem bf37_38 : am_fetch (am_mth 37) 38 = some (.iinc 4 1, 3, [], [0, 5]) := by decide +kernel
theorem bf37_41 : am_fetch (am_mth 37) 41 = some (.goto (-28), 3, [], [0, 5]) := by decide +kernel
theorem bf37_44 : am_fetch (am_mth 37) 44 = some (.iload_n 1, 1, [], [0, 2, 3, 4, 5]) := by decide +kernel
theorem bf37_45 : am_fetch (am_mth 37) 45 = some (.ireturn, 1, [0], [0, 1, 2, 3, 4, 5]) := by decide +kernel
theorem bk37_0 {w : am_Wd} {l0 : Nat} : am_run 37 0 [some (.ref l0), none, none, none, none, none] [] w = (am_gf w l0 10 3).bind fun v => am_run 37 6 [none, some (.int (nI 0)), none, none, none, none] (v :: []) w := by
  refine (bu (ls'' := [some (.ref l0), none, none, none, none, none]) (st' := [.int (nI 0)]) bf37_0 bf37_1 rfl rfl).trans ?_
  refine (bu (ls'' := [some (.ref l0), some (.int (nI 0)), none, none, none, none]) (st' := []) bf37_1 bf37_2 rfl rfl).trans ?_
  refine (bu (ls'' := [none, some (.int (nI 0)), none, none, none, none]) (st' := [.ref l0]) bf37_2 bf37_3 rfl rfl).trans ?_
  exact bh bf37_3 bf37_6 rfl (fun _ _ => am_ge_rf w) rfl
theorem bk37_6 {w : am_Wd} {l1 : Int32} {s0 : Nat} : am_run 37 6 [none, some (.int l1), none, none, none, none] [.ref s0] w = (am_len w s0).bind fun v => am_run 37 9 [none, some (.int l1), some (.ref s0), none, none, none] (.int (nI v) :: []) w := by
  refine (bu (ls'' := [none, some (.int l1), some (.ref s0), none, none, none]) (st' := []) bf37_6 bf37_7 rfl rfl).trans ?_
  refine (bu (ls'' := [none, some (.int l1), some (.ref s0), none, none, none]) (st' := [.ref s0]) bf37_7 bf37_8 rfl rfl).trans ?_
  exact bh bf37_8 bf37_9 rfl (fun _ _ => am_ge_rf w) rfl
theorem bk37_9 {w : am_Wd} {l1 : Int32} {l2 : Nat} {s0 : Int32} : am_run 37 9 [none, some (.int l1), some (.ref l2), none, none, none] [.int s0] w = am_run 37 13 [none, some (.int l1), some (.ref l2), some (.int s0), some (.int (nI 0)), none] [] w := by
  refine (bu (ls'' := [none, some (.int l1), some (.ref l2), some (.int s0), none, none]) (st' := []) bf37_9 bf37_10 rfl rfl).trans ?_
  refine (bu (ls'' := [none, some (.int l1), some (.ref l2), some (.int s0), none, none]) (st' := [.int (nI 0)]) bf37_10 bf37_11 rfl rfl).trans ?_
  refine (bu (ls'' := [none, some (.int l1), some (.ref l2), some (.int s0), some (.int (nI 0)), none]) (st' := []) bf37_11 bf37_13 rfl rfl).trans ?_
  rfl
theorem bk37_13 {w : am_Wd} {l1 : Int32} {l2 : Nat} {l3 : Int32} {l4 : Int32} : am_run 37 13 [none, some (.int l1), some (.ref l2), some (.int l3), some (.int l4), none] [] w = if l3 ≤ l4 then am_run 37 44 [none, some (.int l1), none, none, none, none] [] w else am_run 37 19 [none, some (.int l1), some (.ref l2), some (.int l3), some (.int l4), none] [] w := by
  refine (bu (ls'' := [none, some (.int l1), some (.ref l2), some (.int l3), some (.int l4), none]) (st' := [.int l4]) bf37_13 bf37_15 rfl rfl).trans ?_
  refine (bu (ls'' := [none, some (.int l1), some (.ref l2), some (.int l3), some (.int l4), none]) (st' := [.int l3, .int l4]) bf37_15 bf37_16 rfl rfl).trans ?_
  exact bic bf37_16 rfl bf37_44 bf37_19 rfl rfl rfl
theorem bk37_44 {w : am_Wd} {l1 : Int32} : am_run 37 44 [none, some (.int l1), none, none, none, none] [] w = some (.inl (some (.int l1)), w) := by
  refine (bu (ls'' := [none, none, none, none, none, none]) (st' := [.int l1]) bf37_44 bf37_45 rfl rfl).trans ?_
  exact am_e2 bf37_45 rfl (am_ge_rf w)
theorem bk37_19 {w : am_Wd} {l1 : Int32} {l2 : Nat} {l3 : Int32} {l4 : Int32} : am_run 37 19 [none, some (.int l1), some (.ref l2), some (.int l3), some (.int l4), none] [] w = (am_ri 2 w l2 l4).bind fun v => am_run 37 23 [none, some (.int l1), some (.ref l2), some (.int l3), some (.int l4), none] (.int v :: []) w := by
  refine (bu (ls'' := [none, some (.int l1), some (.ref l2), some (.int l3), some (.int l4), none]) (st' := [.ref l2]) bf37_19 bf37_20 rfl rfl).trans ?_
  refine (bu (ls'' := [none, some (.int l1), some (.ref l2), some (.int l3), some (.int l4), none]) (st' := [.int l4, .ref l2]) bf37_20 bf37_22 rfl rfl).trans ?_
  exact bh bf37_22 bf37_23 rfl (fun _ _ => am_ge_rf w) rfl
theorem bk37_23 {w : am_Wd} {l1 : Int32} {l2 : Nat} {l3 : Int32} {l4 : Int32} {s0 : Int32} : am_run 37 23 [none, some (.int l1), some (.ref l2), some (.int l3), some (.int l4), none] [.int s0] w = if s0 = nI 0 then am_run 37 35 [none, none, some (.ref l2), some (.int l3), some (.int l4), none] [.int l1] w else am_run 37 31 [none, none, some (.ref l2), some (.int l3), some (.int l4), none] [.int l1] w := by
  refine (bu (ls'' := [none, some (.int l1), some (.ref l2), some (.int l3), some (.int l4), some (.int s0)]) (st' := []) bf37_23 bf37_25 rfl rfl).trans ?_
  refine (bu (ls'' := [none, none, some (.ref l2), some (.int l3), some (.int l4), some (.int s0)]) (st' := [.int l1]) bf37_25 bf37_26 rfl rfl).trans ?_
  refine (bu (ls'' := [none, none, some (.ref l2), some (.int l3), some (.int l4), none]) (st' := [.int s0, .int l1]) bf37_26 bf37_28 rfl rfl).trans ?_
  exact bifc bf37_28 rfl bf37_35 bf37_31 rfl rfl rfl
theorem bk37_35 {w : am_Wd} {l2 : Nat} {l3 : Int32} {l4 : Int32} {s0 : Int32} : am_run 37 35 [none, none, some (.ref l2), some (.int l3), some (.int l4), none] [.int s0] w = am_run 37 36 [none, none, some (.ref l2), some (.int l3), some (.int l4), none] [.int (nI 0), .int s0] w := by
  refine (bu (ls'' := [none, none, some (.ref l2), some (.int l3), some (.int l4), none]) (st' := [.int (nI 0), .int s0]) bf37_35 bf37_36 rfl rfl).trans ?_
  rfl
theorem bk37_31 {w : am_Wd} {l2 : Nat} {l3 : Int32} {l4 : Int32} {s0 : Int32} : am_run 37 31 [none, none, some (.ref l2), some (.int l3), some (.int l4), none] [.int s0] w = am_run 37 36 [none, none, some (.ref l2), some (.int l3), some (.int l4), none] [.int (nI 1), .int s0] w := by
  refine (bu (ls'' := [none, none, some (.ref l2), some (.int l3), some (.int l4), none]) (st' := [.int (nI 1), .int s0]) bf37_31 bf37_32 rfl rfl).trans ?_
  refine (bu (ls'' := [none, none, some (.ref l2), some (.int l3), some (.int l4), none]) (st' := [.int (nI 1), .int s0]) bf37_32 bf37_36 rfl rfl).trans ?_
  rfl
theorem bk37_36 {w : am_Wd} {l2 : Nat} {l3 : Int32} {l4 : Int32} {s0 : Int32} {s1 : Int32} : am_run 37 36 [none, none, some (.ref l2), some (.int l3), some (.int l4), none] [.int s0, .int s1] w = am_run 37 13 [none, some (.int (s1 + s0)), some (.ref l2), some (.int l3), some (.int (l4 + (nI 1))), none] [] w := by
  refine (bu (ls'' := [none, none, some (.ref l2), some (.int l3), some (.int l4), none]) (st' := [.int (s1 + s0)]) bf37_36 bf37_37 rfl rfl).trans ?_
  refine (bu (ls'' := [none, some (.int (s1 + s0)), some (.ref l2), some (.int l3), some (.int l4), none]) (st' := []) bf37_37 bf37_38 rfl rfl).trans ?_
  refine (bu (ls'' := [none, some (.int (s1 + s0)), some (.ref l2), some (.int l3), some (.int (l4 + (nI 1))), none]) (st' := []) bf37_38 bf37_41 rfl rfl).trans ?_
  refine (bu (ls'' := [none, some (.int (s1 + s0)), some (.ref l2), some (.int l3), some (.int (l4 + (nI 1))), none]) (st' := []) bf37_41 bf37_13 rfl rfl).trans ?_
  rfl
theorem bf38_0 : am_fetch (am_mth 38) 0 = some (.aload_n 0, 1, [], []) := by decide +kernel
theorem bf38_1 : am_fetch (am_mth 38) 1 = some (.getfield 24, 3, [0, 10, 0, 1302], [0]) := by decide +kernel
theorem bf38_4 : am_fetch (am_mth 38) 4 = some (.iconst 4, 1, [], [0]) := by decide +kernel
theorem bf38_5 : am_fetch (am_mth 38) 5 = some (.idiv, 1, [], [0]) := by decide +kernel
theorem bf38_6 : am_fetch (am_mth 38) 6 = some (.ireturn, 1, [0], [0]) := by decide +kernel
theorem bk38_0 {w : am_Wd} {l0 : Nat} : am_run 38 0 [some (.ref l0)] [] w = (am_gf w l0 10 0).bind fun v => am_run 38 4 [none] (v :: []) w := by
  refine (bu (ls'' := [none]) (st' := [.ref l0]) bf38_0 bf38_1 rfl rfl).trans ?_
  exact bh bf38_1 bf38_4 rfl (fun _ _ => am_ge_rf w) rfl
theorem bk38_4 {w : am_Wd} {s0 : Int32} : am_run 38 4 [none] [.int s0] w = some (.inl (some (.int (s0 / (nI 4)))), w) := by
  refine (bu (ls'' := [none]) (st' := [.int (nI 4), .int s0]) bf38_4 bf38_5 rfl rfl).trans ?_
  refine (bu (ls'' := [none]) (st' := [.int (s0 / (nI 4))]) bf38_5 bf38_6 rfl rfl).trans ?_
  exact am_e2 bf38_6 rfl (am_ge_rf w)
theorem bf39_0 : am_fetch (am_mth 39) 0 = some (.iload_n 0, 1, [], []) := by decide +kernel
theorem bf39_1 : am_fetch (am_mth 39) 1 = some (.iload_n 1, 1, [], []) := by decide +kernel
theorem bf39_2 : am_fetch (am_mth 39) 2 = some (.if_icmp .lt 12, 3, [], [1]) := by decide +kernel
theorem bf39_5 : am_fetch (am_mth 39) 5 = some (.iload_n 0, 1, [], [1]) := by decide +kernel
theorem bf39_6 : am_fetch (am_mth 39) 6 = some (.iload_n 2, 1, [], [0, 1]) := by decide +kernel
theorem bf39_7 : am_fetch (am_mth 39) 7 = some (.if_icmp .gt 7, 3, [], [0, 1, 2]) := by decide +kernel
theorem bf39_10 : am_fetch (am_mth 39) 10 = some (.iconst 1, 1, [], [0, 1, 2]) := by decide +kernel
theorem bf39_11 : am_fetch (am_mth 39) 11 = some (.goto 4, 3, [], [0, 1, 2]) := by decide +kernel
theorem bf39_14 : am_fetch (am_mth 39) 14 = some (.iconst 0, 1, [], [0, 1, 2]) := by decide +kernel
theorem bf39_15 : am_fetch (am_mth 39) 15 = some (.ireturn, 1, [1], [0, 1, 2]) := by decide +kernel
theorem bk39_0 {w : am_Wd} {l0 : Int32} {l1 : Int32} {l2 : Int32} : am_run 39 0 [some (.int l0), some (.int l1), some (.int l2)] [] w = if l0 < l1 then am_run 39 14 [none, none, none] [] w else am_run 39 5 [some (.int l0), none, some (.int l2)] [] w := by
  refine (bu (ls'' := [some (.int l0), some (.int l1), some (.int l2)]) (st' := [.int l0]) bf39_0 bf39_1 rfl rfl).trans ?_
  refine (bu (ls'' := [some (.int l0), none, some (.int l2)]) (st' := [.int l1, .int l0]) bf39_1 bf39_2 rfl rfl).trans ?_
  exact bic bf39_2 rfl bf39_14 bf39_5 rfl rfl rfl
theorem bk39_14 {w : am_Wd}  : am_run 39 14 [none, none, none] [] w = am_run 39 15 [none, none, none] [.int (nI 0)] w := by
  refine (bu (ls'' := [none, none, none]) (st' := [.int (nI 0)]) bf39_14 bf39_15 rfl rfl).trans ?_
  rfl
theorem bk39_5 {w : am_Wd} {l0 : Int32} {l2 : Int32} : am_run 39 5 [some (.int l0), none, some (.int l2)] [] w = if l2 < l0 then am_run 39 14 [none, none, none] [] w else am_run 39 10 [none, none, none] [] w := by
  refine (bu (ls'' := [none, none, some (.int l2)]) (st' := [.int l0]) bf39_5 bf39_6 rfl rfl).trans ?_
  refine (bu (ls'' := [none, none, none]) (st' := [.int l2, .int l0]) bf39_6 bf39_7 rfl rfl).trans ?_
  exact bic bf39_7 rfl bf39_14 bf39_10 rfl rfl rfl
theorem bk39_15 {w : am_Wd} {s0 : Int32} (hb : am_ok (am_rt 1) (.int s0) = true) : am_run 39 15 [none, none, none] [.int s0] w = some (.inl (some (.int s0)), w) := by
  exact am_e2 bf39_15 (by unfold am_stp; exact if_pos ⟨by decide, hb⟩) (am_ge_rf w)
theorem bk39_10 {w : am_Wd}  : am_run 39 10 [none, none, none] [] w = am_run 39 15 [none, none, none] [.int (nI 1)] w := by
  refine (bu (ls'' := [none, none, none]) (st' := [.int (nI 1)]) bf39_10 bf39_11 rfl rfl).trans ?_
  refine (bu (ls'' := [none, none, none]) (st' := [.int (nI 1)]) bf39_11 bf39_15 rfl rfl).trans ?_
  rfl
theorem bf40_0 : am_fetch (am_mth 40) 0 = some (.iload_n 1, 1, [], []) := by decide +kernel
theorem bf40_1 : am_fetch (am_mth 40) 1 = some (.ifCond .eq 15, 3, [], [1]) := by decide +kernel
theorem bf40_4 : am_fetch (am_mth 40) 4 = some (.aload_n 0, 1, [], [1]) := by decide +kernel
theorem bf40_5 : am_fetch (am_mth 40) 5 = some (.getfield 35, 3, [0, 11, 0, 1197], [1]) := by decide +kernel
theorem bf40_8 : am_fetch (am_mth 40) 8 = some (.ifCond .ne 8, 3, [], [1]) := by decide +kernel
theorem bf40_11 : am_fetch (am_mth 40) 11 = some (.aload_n 0, 1, [], [1]) := by decide +kernel
theorem bf40_12 : am_fetch (am_mth 40) 12 = some (.iload_n 2, 1, [], [1]) := by decide +kernel
theorem bf40_13 : am_fetch (am_mth 40) 13 = some (.putfield 35, 3, [0, 11, 0, 1197], [1, 2]) := by decide +kernel
theorem bf40_16 : am_fetch (am_mth 40) 16 = some (.aload_n 0, 1, [], [1, 2]) := by decide +kernel
theorem bf40_17 : am_fetch (am_mth 40) 17 = some (.getfield 35, 3, [0, 11, 0, 1197], [0, 1, 2]) := by decide +kernel
theorem bf40_20 : am_fetch (am_mth 40) 20 = some (.ifCond .le 7, 3, [], [0, 1, 2]) := by decide +kernel
theorem bf40_23 : am_fetch (am_mth 40) 23 = some (.iconst 1, 1, [], [0, 1, 2]) := by decide +kernel
theorem bf40_24 : am_fetch (am_mth 40) 24 = some (.goto 4, 3, [], [0, 1, 2]) := by decide +kernel
theorem bf40_27 : am_fetch (am_mth 40) 27 = some (.iconst 0, 1, [], [0, 1, 2]) := by decide +kernel
theorem bf40_28 : am_fetch (am_mth 40) 28 = some (.ireturn, 1, [1], [0, 1, 2]) := by decide +kernel
theorem bk40_0 {w : am_Wd} {l0 : Nat} {l1 : Int32} {l2 : Int32} : am_run 40 0 [some (.ref l0), some (.int l1), some (.int l2)] [] w = if l1 = nI 0 then am_run 40 16 [some (.ref l0), none, none] [] w else am_run 40 4 [some (.ref l0), none, some (.int l2)] [] w := by
  refine (bu (ls'' := [some (.ref l0), none, some (.int l2)]) (st' := [.int l1]) bf40_0 bf40_1 rfl rfl).trans ?_
  exact bifc bf40_1 rfl bf40_16 bf40_4 rfl rfl rfl
theorem bk40_16 {w : am_Wd} {l0 : Nat} : am_run 40 16 [some (.ref l0), none, none] [] w = (am_gf w l0 11 0).bind fun v => am_run 40 20 [none, none, none] (v :: []) w := by
  refine (bu (ls'' := [none, none, none]) (st' := [.ref l0]) bf40_16 bf40_17 rfl rfl).trans ?_
  exact bh bf40_17 bf40_20 rfl (fun _ _ => am_ge_rf w) rfl
theorem bk40_4 {w : am_Wd} {l0 : Nat} {l2 : Int32} : am_run 40 4 [some (.ref l0), none, some (.int l2)] [] w = (am_gf w l0 11 0).bind fun v => am_run 40 8 [some (.ref l0), none, some (.int l2)] (v :: []) w := by
  refine (bu (ls'' := [some (.ref l0), none, some (.int l2)]) (st' := [.ref l0]) bf40_4 bf40_5 rfl rfl).trans ?_
  exact bh bf40_5 bf40_8 rfl (fun _ _ => am_ge_rf w) rfl
theorem bk40_20 {w : am_Wd} {s0 : Int32} : am_run 40 20 [none, none, none] [.int s0] w = if s0 ≤ nI 0 then am_run 40 27 [none, none, none] [] w else am_run 40 23 [none, none, none] [] w := by
  exact bifc bf40_20 rfl bf40_27 bf40_23 rfl rfl rfl
theorem bk40_8 {w : am_Wd} {l0 : Nat} {l2 : Int32} {s0 : Int32} : am_run 40 8 [some (.ref l0), none, some (.int l2)] [.int s0] w = if ¬ s0 = nI 0 then am_run 40 16 [some (.ref l0), none, none] [] w else am_run 40 11 [some (.ref l0), none, some (.int l2)] [] w := by
  exact bifc bf40_8 rfl bf40_16 bf40_11 rfl rfl rfl
theorem bk40_27 {w : am_Wd}  : am_run 40 27 [none, none, none] [] w = am_run 40 28 [none, none, none] [.int (nI 0)] w := by
  refine (bu (ls'' := [none, none, none]) (st' := [.int (nI 0)]) bf40_27 bf40_28 rfl rfl).trans ?_
  rfl
theorem bk40_23 {w : am_Wd}  : am_run 40 23 [none, none, none] [] w = am_run 40 28 [none, none, none] [.int (nI 1)] w := by
  refine (bu (ls'' := [none, none, none]) (st' := [.int (nI 1)]) bf40_23 bf40_24 rfl rfl).trans ?_
  refine (bu (ls'' := [none, none, none]) (st' := [.int (nI 1)]) bf40_24 bf40_28 rfl rfl).trans ?_
  rfl
theorem bk40_11 {w : am_Wd} {l0 : Nat} {l2 : Int32} : am_run 40 11 [some (.ref l0), none, some (.int l2)] [] w = (am_pf w l0 11 0 (.int l2)).bind fun w' => am_run 40 16 [some (.ref l0), none, none] [] w' := by
  refine (bu (ls'' := [some (.ref l0), none, some (.int l2)]) (st' := [.ref l0]) bf40_11 bf40_12 rfl rfl).trans ?_
  refine (bu (ls'' := [some (.ref l0), none, none]) (st' := [.int l2, .ref l0]) bf40_12 bf40_13 rfl rfl).trans ?_
  exact bh bf40_13 bf40_16 rfl (bge_pf) rfl
theorem bk40_28 {w : am_Wd} {s0 : Int32} (hb : am_ok (am_rt 1) (.int s0) = true) : am_run 40 28 [none, none, none] [.int s0] w = some (.inl (some (.int s0)), w) := by
  exact am_e2 bf40_28 (by unfold am_stp; exact if_pos ⟨by decide, hb⟩) (am_ge_rf w)
theorem bf41_0 : am_fetch (am_mth 41) 0 = some (.iload_n 0, 1, [], []) := by decide +kernel
theorem bf41_1 : am_fetch (am_mth 41) 1 = some (.iconst 2, 1, [], [0]) := by decide +kernel
theorem bf41_2 : am_fetch (am_mth 41) 2 = some (.irem, 1, [], [0]) := by decide +kernel
theorem bf41_3 : am_fetch (am_mth 41) 3 = some (.iconst 1, 1, [], [0]) := by decide +kernel
theorem bf41_4 : am_fetch (am_mth 41) 4 = some (.if_icmp .ne 7, 3, [], [0]) := by decide +kernel
theorem bf41_7 : am_fetch (am_mth 41) 7 = some (.iconst 0, 1, [], [0]) := by decide +kernel
theorem bf41_8 : am_fetch (am_mth 41) 8 = some (.goto 4, 3, [], [0]) := by decide +kernel
theorem bf41_11 : am_fetch (am_mth 41) 11 = some (.iconst 1, 1, [], [0]) := by decide +kernel
theorem bf41_12 : am_fetch (am_mth 41) 12 = some (.ireturn, 1, [0], [0]) := by decide +kernel
theorem bk41_0 {w : am_Wd} {l0 : Int32} : am_run 41 0 [some (.int l0)] [] w = if ¬ (bj_irem l0 (nI 2)) = (nI 1) then am_run 41 11 [none] [] w else am_run 41 7 [none] [] w := by
  refine (bu (ls'' := [none]) (st' := [.int l0]) bf41_0 bf41_1 rfl rfl).trans ?_
  refine (bu (ls'' := [none]) (st' := [.int (nI 2), .int l0]) bf41_1 bf41_2 rfl rfl).trans ?_
  refine (bu (ls'' := [none]) (st' := [.int (bj_irem l0 (nI 2))]) bf41_2 bf41_3 rfl rfl).trans ?_
  refine (bu (ls'' := [none]) (st' := [.int (nI 1), .int (bj_irem l0 (nI 2))]) bf41_3 bf41_4 rfl rfl).trans ?_
  exact bic bf41_4 rfl bf41_11 bf41_7 rfl rfl rfl
theorem bk41_11 {w : am_Wd}  : am_run 41 11 [none] [] w = am_run 41 12 [none] [.int (nI 1)] w := by
  refine (bu (ls'' := [none]) (st' := [.int (nI 1)]) bf41_11 bf41_12 rfl rfl).trans ?_
  rfl
theorem bk41_7 {w : am_Wd}  : am_run 41 7 [none] [] w = am_run 41 12 [none] [.int (nI 0)] w := by
  refine (bu (ls'' := [none]) (st' := [.int (nI 0)]) bf41_7 bf41_8 rfl rfl).trans ?_
  refine (bu (ls'' := [none]) (st' := [.int (nI 0)]) bf41_8 bf41_12 rfl rfl).trans ?_
  rfl
theorem bk41_12 {w : am_Wd} {s0 : Int32} : am_run 41 12 [none] [.int s0] w = some (.inl (some (.int s0)), w) := by
  exact am_e2 bf41_12 rfl (am_ge_rf w)
theorem bf42_0 : am_fetch (am_mth 42) 0 = some (.aload_n 0, 1, [], []) := by decide +kernel
theorem bf42_1 : am_fetch (am_mth 42) 1 = some (.getfield 18, 3, [0, 11, 8, 1205], []) := by decide +kernel
theorem bf42_4 : am_fetch (am_mth 42) 4 = some (.iload_n 1, 1, [], []) := by decide +kernel
theorem bf42_5 : am_fetch (am_mth 42) 5 = some (.aaload, 1, [], [1]) := by decide +kernel
theorem bf42_6 : am_fetch (am_mth 42) 6 = some (.iload_n 2, 1, [], [1]) := by decide +kernel
theorem bf42_7 : am_fetch (am_mth 42) 7 = some (.iaload, 1, [], [1, 2]) := by decide +kernel
theorem bf42_8 : am_fetch (am_mth 42) 8 = some (.aload_n 0, 1, [], [1, 2]) := by decide +kernel
theorem bf42_9 : am_fetch (am_mth 42) 9 = some (.getfield 54, 3, [0, 11, 1, 1198], [0, 1, 2]) := by decide +kernel
theorem bf42_12 : am_fetch (am_mth 42) 12 = some (.bipush 60, 2, [], [0, 1, 2]) := by decide +kernel
theorem bf42_14 : am_fetch (am_mth 42) 14 = some (.idiv, 1, [], [0, 1, 2]) := by decide +kernel
theorem bf42_15 : am_fetch (am_mth 42) 15 = some (.bipush 24, 2, [], [0, 1, 2]) := by decide +kernel
theorem bf42_17 : am_fetch (am_mth 42) 17 = some (.irem, 1, [], [0, 1, 2]) := by decide +kernel
theorem bf42_18 : am_fetch (am_mth 42) 18 = some (.ishr, 1, [], [0, 1, 2]) := by decide +kernel
theorem bf42_19 : am_fetch (am_mth 42) 19 = some (.iconst 1, 1, [], [0, 1, 2]) := by decide +kernel
theorem bf42_20 : am_fetch (am_mth 42) 20 = some (.iand, 1, [], [0, 1, 2]) := by decide +kernel
theorem bf42_21 : am_fetch (am_mth 42) 21 = some (.iconst 1, 1, [], [0, 1, 2]) := by decide +kernel
theorem bf42_22 : am_fetch (am_mth 42) 22 = some (.if_icmp .ne 7, 3, [], [0, 1, 2]) := by decide +kernel
theorem bf42_25 : am_fetch (am_mth 42) 25 = some (.iconst 1, 1, [], [0, 1, 2]) := by decide +kernel
theorem bf42_26 : am_fetch (am_mth 42) 26 = some (.goto 4, 3, [], [0, 1, 2]) := by decide +kernel
theorem bf42_29 : am_fetch (am_mth 42) 29 = some (.iconst 0, 1, [], [0, 1, 2]) := by decide +kernel
theorem bf42_30 : am_fetch (am_mth 42) 30 = some (.ireturn, 1, [1], [0, 1, 2]) := by decide +kernel
theorem bk42_0 {w : am_Wd} {l0 : Nat} {l1 : Int32} {l2 : Int32} : am_run 42 0 [some (.ref l0), some (.int l1), some (.int l2)] [] w = (am_gf w l0 11 8).bind fun v => am_run 42 4 [some (.ref l0), some (.int l1), some (.int l2)] (v :: []) w := by
  refine (bu (ls'' := [some (.ref l0), some (.int l1), some (.int l2)]) (st' := [.ref l0]) bf42_0 bf42_1 rfl rfl).trans ?_
  exact bh bf42_1 bf42_4 rfl (fun _ _ => am_ge_rf w) rfl
theorem bk42_4 {w : am_Wd} {l0 : Nat} {l1 : Int32} {l2 : Int32} {s0 : Nat} : am_run 42 4 [some (.ref l0), some (.int l1), some (.int l2)] [.ref s0] w = (am_rq w s0 l1).bind fun v => am_run 42 6 [some (.ref l0), none, some (.int l2)] (v :: []) w := by
  refine (bu (ls'' := [some (.ref l0), none, some (.int l2)]) (st' := [.int l1, .ref s0]) bf42_4 bf42_5 rfl rfl).trans ?_
  exact bh bf42_5 bf42_6 rfl (fun _ _ => am_ge_rf w) rfl
theorem bk42_6 {w : am_Wd} {l0 : Nat} {l2 : Int32} {s0 : Nat} : am_run 42 6 [some (.ref l0), none, some (.int l2)] [.ref s0] w = (am_ri 0 w s0 l2).bind fun v => am_run 42 8 [some (.ref l0), none, none] (.int v :: []) w := by
  refine (bu (ls'' := [some (.ref l0), none, none]) (st' := [.int l2, .ref s0]) bf42_6 bf42_7 rfl rfl).trans ?_
  exact bh bf42_7 bf42_8 rfl (fun _ _ => am_ge_rf w) rfl
theorem bk42_8 {w : am_Wd} {l0 : Nat} {s0 : Int32} : am_run 42 8 [some (.ref l0), none, none] [.int s0] w = (am_gf w l0 11 1).bind fun v => am_run 42 12 [none, none, none] (v :: [.int s0]) w := by
  refine (bu (ls'' := [none, none, none]) (st' := [.ref l0, .int s0]) bf42_8 bf42_9 rfl rfl).trans ?_
  exact bh bf42_9 bf42_12 rfl (fun _ _ => am_ge_rf w) rfl
theorem bk42_12 {w : am_Wd} {s0 : Int32} {s1 : Int32} : am_run 42 12 [none, none, none] [.int s0, .int s1] w = if ¬ ((bj_ishr s1 (bj_irem (s0 / (nI 60)) (nI 24))) &&& (nI 1)) = (nI 1) then am_run 42 29 [none, none, none] [] w else am_run 42 25 [none, none, none] [] w := by
  refine (bu (ls'' := [none, none, none]) (st' := [.int (nI 60), .int s0, .int s1]) bf42_12 bf42_14 rfl rfl).trans ?_
  refine (bu (ls'' := [none, none, none]) (st' := [.int (s0 / (nI 60)), .int s1]) bf42_14 bf42_15 rfl rfl).trans ?_
  refine (bu (ls'' := [none, none, none]) (st' := [.int (nI 24), .int (s0 / (nI 60)), .int s1]) bf42_15 bf42_17 rfl rfl).trans ?_
  refine (bu (ls'' := [none, none, none]) (st' := [.int (bj_irem (s0 / (nI 60)) (nI 24)), .int s1]) bf42_17 bf42_18 rfl rfl).trans ?_
  refine (bu (ls'' := [none, none, none]) (st' := [.int (bj_ishr s1 (bj_irem (s0 / (nI 60)) (nI 24)))]) bf42_18 bf42_19 rfl rfl).trans ?_
  refine (bu (ls'' := [none, none, none]) (st' := [.int (nI 1), .int (bj_ishr s1 (bj_irem (s0 / (nI 60)) (nI 24)))]) bf42_19 bf42_20 rfl rfl).trans ?_
  refine (bu (ls'' := [none, none, none]) (st' := [.int ((bj_ishr s1 (bj_irem (s0 / (nI 60)) (nI 24))) &&& (nI 1))]) bf42_20 bf42_21 rfl rfl).trans ?_
  refine (bu (ls'' := [none, none, none]) (st' := [.int (nI 1), .int ((bj_ishr s1 (bj_irem (s0 / (nI 60)) (nI 24))) &&& (nI 1))]) bf42_21 bf42_22 rfl rfl).trans ?_
  exact bic bf42_22 rfl bf42_29 bf42_25 rfl rfl rfl
theorem bk42_29 {w : am_Wd}  : am_run 42 29 [none, none, none] [] w = am_run 42 30 [none, none, none] [.int (nI 0)] w := by
  refine (bu (ls'' := [none, none, none]) (st' := [.int (nI 0)]) bf42_29 bf42_30 rfl rfl).trans ?_
  rfl
theorem bk42_25 {w : am_Wd}  : am_run 42 25 [none, none, none] [] w = am_run 42 30 [none, none, none] [.int (nI 1)] w := by
  refine (bu (ls'' := [none, none, none]) (st' := [.int (nI 1)]) bf42_25 bf42_26 rfl rfl).trans ?_
  refine (bu (ls'' := [none, none, none]) (st' := [.int (nI 1)]) bf42_26 bf42_30 rfl rfl).trans ?_
  rfl
theorem bk42_30 {w : am_Wd} {s0 : Int32} (hb : am_ok (am_rt 1) (.int s0) = true) : am_run 42 30 [none, none, none] [.int s0] w = some (.inl (some (.int s0)), w) := by
  exact am_e2 bf42_30 (by unfold am_stp; exact if_pos ⟨by decide, hb⟩) (am_ge_rf w)
theorem bf43_0 : am_fetch (am_mth 43) 0 = some (.iload_n 0, 1, [], []) := by decide +kernel
theorem bf43_1 : am_fetch (am_mth 43) 1 = some (.iconst 4, 1, [], []) := by decide +kernel
theorem bf43_2 : am_fetch (am_mth 43) 2 = some (.idiv, 1, [], []) := by decide +kernel
theorem bf43_3 : am_fetch (am_mth 43) 3 = some (.iconst 4, 1, [], []) := by decide +kernel
theorem bf43_4 : am_fetch (am_mth 43) 4 = some (.imul, 1, [], []) := by decide +kernel
theorem bf43_5 : am_fetch (am_mth 43) 5 = some (.iload_n 0, 1, [], []) := by decide +kernel
theorem bf43_6 : am_fetch (am_mth 43) 6 = some (.iload_n 1, 1, [], [0]) := by decide +kernel
theorem bf43_7 : am_fetch (am_mth 43) 7 = some (.iadd, 1, [], [0, 1]) := by decide +kernel
theorem bf43_8 : am_fetch (am_mth 43) 8 = some (.iconst 4, 1, [], [0, 1]) := by decide +kernel
theorem bf43_9 : am_fetch (am_mth 43) 9 = some (.irem, 1, [], [0, 1]) := by decide +kernel
theorem bf43_10 : am_fetch (am_mth 43) 10 = some (.iadd, 1, [], [0, 1]) := by decide +kernel
theorem bf43_11 : am_fetch (am_mth 43) 11 = some (.ireturn, 1, [0], [0, 1]) := by decide +kernel
theorem bk43_0 {w : am_Wd} {l0 : Int32} {l1 : Int32} : am_run 43 0 [some (.int l0), some (.int l1)] [] w = some (.inl (some (.int (((l0 / (nI 4)) * (nI 4)) + (bj_irem (l0 + l1) (nI 4))))), w) := by
  refine (bu (ls'' := [some (.int l0), some (.int l1)]) (st' := [.int l0]) bf43_0 bf43_1 rfl rfl).trans ?_
  refine (bu (ls'' := [some (.int l0), some (.int l1)]) (st' := [.int (nI 4), .int l0]) bf43_1 bf43_2 rfl rfl).trans ?_
  refine (bu (ls'' := [some (.int l0), some (.int l1)]) (st' := [.int (l0 / (nI 4))]) bf43_2 bf43_3 rfl rfl).trans ?_
  refine (bu (ls'' := [some (.int l0), some (.int l1)]) (st' := [.int (nI 4), .int (l0 / (nI 4))]) bf43_3 bf43_4 rfl rfl).trans ?_
  refine (bu (ls'' := [some (.int l0), some (.int l1)]) (st' := [.int ((l0 / (nI 4)) * (nI 4))]) bf43_4 bf43_5 rfl rfl).trans ?_
  refine (bu (ls'' := [none, some (.int l1)]) (st' := [.int l0, .int ((l0 / (nI 4)) * (nI 4))]) bf43_5 bf43_6 rfl rfl).trans ?_
  refine (bu (ls'' := [none, none]) (st' := [.int l1, .int l0, .int ((l0 / (nI 4)) * (nI 4))]) bf43_6 bf43_7 rfl rfl).trans ?_
  refine (bu (ls'' := [none, none]) (st' := [.int (l0 + l1), .int ((l0 / (nI 4)) * (nI 4))]) bf43_7 bf43_8 rfl rfl).trans ?_
  refine (bu (ls'' := [none, none]) (st' := [.int (nI 4), .int (l0 + l1), .int ((l0 / (nI 4)) * (nI 4))]) bf43_8 bf43_9 rfl rfl).trans ?_
  refine (bu (ls'' := [none, none]) (st' := [.int (bj_irem (l0 + l1) (nI 4)), .int ((l0 / (nI 4)) * (nI 4))]) bf43_9 bf43_10 rfl rfl).trans ?_
  refine (bu (ls'' := [none, none]) (st' := [.int (((l0 / (nI 4)) * (nI 4)) + (bj_irem (l0 + l1) (nI 4)))]) bf43_10 bf43_11 rfl rfl).trans ?_
  exact am_e2 bf43_11 rfl (am_ge_rf w)
theorem bf44_0 : am_fetch (am_mth 44) 0 = some (.iconst 0, 1, [], [1, 2, 3, 4, 5]) := by decide +kernel
theorem bf44_1 : am_fetch (am_mth 44) 1 = some (.istore_n 1, 1, [], [1, 2, 3, 4, 5]) := by decide +kernel
theorem bf44_2 : am_fetch (am_mth 44) 2 = some (.aload_n 0, 1, [], [2, 3, 4, 5]) := by decide +kernel
theorem bf44_3 : am_fetch (am_mth 44) 3 = some (.astore_n 2, 1, [], [0, 2, 3, 4, 5]) := by decide +kernel
theorem bf44_4 : am_fetch (am_mth 44) 4 = some (.aload_n 2, 1, [], [0, 3, 4, 5]) := by decide +kernel
theorem bf44_5 : am_fetch (am_mth 44) 5 = some (.arraylength, 1, [], [0, 3, 4, 5]) := by decide +kernel
theorem bf44_6 : am_fetch (am_mth 44) 6 = some (.istore_n 3, 1, [], [0, 3, 4, 5]) := by decide +kernel
theorem bf44_7 : am_fetch (am_mth 44) 7 = some (.iconst 0, 1, [], [0, 4, 5]) := by decide +kernel
theorem bf44_8 : am_fetch (am_mth 44) 8 = some (.istore 4, 2, [], [0, 4, 5]) := by decide +kernel
theorem bf44_10 : am_fetch (am_mth 44) 10 = some (.iload 4, 2, [], [0, 5]) := by decide +kernel
theorem bf44_12 : am_fetch (am_mth 44) 12 = some (.iload_n 3, 1, [], [0, 5]) := by decide +kernel
theorem bf44_13 : am_fetch (am_mth 44) 13 = some (.if_icmp .ge 28, 3, [], [0, 5]) := by decide +kernel
theorem bf44_16 : am_fetch (am_mth 44) 16 = some (.aload_n 2, 1, [], [0, 5]) := by decide +kernel
theorem bf44_17 : am_fetch (am_mth 44) 17 = some (.iload 4, 2, [], [0, 5]) := by decide +kernel
theorem bf44_19 : am_fetch (am_mth 44) 19 = some (.baload, 1, [2], [0, 5]) := by decide +kernel
theorem bf44_20 : am_fetch (am_mth 44) 20 = some (.istore 5, 2, [], [0, 5]) := by decide +kernel
theorem bf44_22 : am_fetch (am_mth 44) 22 = some (.iload_n 1, 1, [], [0]) := by decide +kernel
theorem bf44_23 : am_fetch (am_mth 44) 23 = some (.iload 5, 2, [], [0, 1]) := by decide +kernel
theorem bf44_25 : am_fetch (am_mth 44) 25 = some (.ifCond .eq 7, 3, [], [0, 1, 5]) := by decide +kernel
theorem bf44_28 : am_fetch (am_mth 44) 28 = some (.iconst 1, 1, [], [0, 1, 5]) := by decide +kernel
theorem bf44_29 : am_fetch (am_mth 44) 29 = some (.goto 4, 3, [], [0, 1, 5]) := by decide +kernel
theorem bf44_32 : am_fetch (am_mth 44) 32 = some (.iconst 0, 1, [], [0, 1, 5]) := by decide +kernel
theorem bf44_33 : am_fetch (am_mth 44) 33 = some (.iadd, 1, [], [0, 1, 5]) := by decide +kernel
theorem bf44_34 : am_fetch (am_mth 44) 34 = some (.istore_n 1, 1, [], [0, 1, 5]) := by decide +kernel
theorem bf44_35 : am_fetch (am_mth 44) 35 = some (.iinc 4 1, 3, [], [0, 5]) := by decide +kernel
theorem bf44_38 : am_fetch (am_mth 44) 38 = some (.goto (-28), 3, [], [0, 5]) := by decide +kernel
theorem bf44_41 : am_fetch (am_mth 44) 41 = some (.iload_n 1, 1, [], [0, 2, 3, 4, 5]) := by decide +kernel
theorem bf44_42 : am_fetch (am_mth 44) 42 = some (.ireturn, 1, [0], [0, 1, 2, 3, 4, 5]) := by decide +kernel
theorem bk44_0 {w : am_Wd} {l0 : Nat} : am_run 44 0 [some (.ref l0), none, none, none, none, none] [] w = (am_len w l0).bind fun v => am_run 44 6 [none, some (.int (nI 0)), some (.ref l0), none, none, none] (.int (nI v) :: []) w := by
  refine (bu (ls'' := [some (.ref l0), none, none, none, none, none]) (st' := [.int (nI 0)]) bf44_0 bf44_1 rfl rfl).trans ?_
  refine (bu (ls'' := [some (.ref l0), some (.int (nI 0)), none, none, none, none]) (st' := []) bf44_1 bf44_2 rfl rfl).trans ?_
  refine (bu (ls'' := [none, some (.int (nI 0)), none, none, none, none]) (st' := [.ref l0]) bf44_2 bf44_3 rfl rfl).trans ?_
  refine (bu (ls'' := [none, some (.int (nI 0)), some (.ref l0), none, none, none]) (st' := []) bf44_3 bf44_4 rfl rfl).trans ?_
  refine (bu (ls'' := [none, some (.int (nI 0)), some (.ref l0), none, none, none]) (st' := [.ref l0]) bf44_4 bf44_5 rfl rfl).trans ?_
  exact bh bf44_5 bf44_6 rfl (fun _ _ => am_ge_rf w) rfl
theorem bk44_6 {w : am_Wd} {l1 : Int32} {l2 : Nat} {s0 : Int32} : am_run 44 6 [none, some (.int l1), some (.ref l2), none, none, none] [.int s0] w = am_run 44 10 [none, some (.int l1), some (.ref l2), some (.int s0), some (.int (nI 0)), none] [] w := by
  refine (bu (ls'' := [none, some (.int l1), some (.ref l2), some (.int s0), none, none]) (st' := []) bf44_6 bf44_7 rfl rfl).trans ?_
  refine (bu (ls'' := [none, some (.int l1), some (.ref l2), some (.int s0), none, none]) (st' := [.int (nI 0)]) bf44_7 bf44_8 rfl rfl).trans ?_
  refine (bu (ls'' := [none, some (.int l1), some (.ref l2), some (.int s0), some (.int (nI 0)), none]) (st' := []) bf44_8 bf44_10 rfl rfl).trans ?_
  rfl
theorem bk44_10 {w : am_Wd} {l1 : Int32} {l2 : Nat} {l3 : Int32} {l4 : Int32} : am_run 44 10 [none, some (.int l1), some (.ref l2), some (.int l3), some (.int l4), none] [] w = if l3 ≤ l4 then am_run 44 41 [none, some (.int l1), none, none, none, none] [] w else am_run 44 16 [none, some (.int l1), some (.ref l2), some (.int l3), some (.int l4), none] [] w := by
  refine (bu (ls'' := [none, some (.int l1), some (.ref l2), some (.int l3), some (.int l4), none]) (st' := [.int l4]) bf44_10 bf44_12 rfl rfl).trans ?_
  refine (bu (ls'' := [none, some (.int l1), some (.ref l2), some (.int l3), some (.int l4), none]) (st' := [.int l3, .int l4]) bf44_12 bf44_13 rfl rfl).trans ?_
  exact bic bf44_13 rfl bf44_41 bf44_16 rfl rfl rfl
theorem bk44_41 {w : am_Wd} {l1 : Int32} : am_run 44 41 [none, some (.int l1), none, none, none, none] [] w = some (.inl (some (.int l1)), w) := by
  refine (bu (ls'' := [none, none, none, none, none, none]) (st' := [.int l1]) bf44_41 bf44_42 rfl rfl).trans ?_
  exact am_e2 bf44_42 rfl (am_ge_rf w)
theorem bk44_16 {w : am_Wd} {l1 : Int32} {l2 : Nat} {l3 : Int32} {l4 : Int32} : am_run 44 16 [none, some (.int l1), some (.ref l2), some (.int l3), some (.int l4), none] [] w = (am_ri 2 w l2 l4).bind fun v => am_run 44 20 [none, some (.int l1), some (.ref l2), some (.int l3), some (.int l4), none] (.int v :: []) w := by
  refine (bu (ls'' := [none, some (.int l1), some (.ref l2), some (.int l3), some (.int l4), none]) (st' := [.ref l2]) bf44_16 bf44_17 rfl rfl).trans ?_
  refine (bu (ls'' := [none, some (.int l1), some (.ref l2), some (.int l3), some (.int l4), none]) (st' := [.int l4, .ref l2]) bf44_17 bf44_19 rfl rfl).trans ?_
  exact bh bf44_19 bf44_20 rfl (fun _ _ => am_ge_rf w) rfl
theorem bk44_20 {w : am_Wd} {l1 : Int32} {l2 : Nat} {l3 : Int32} {l4 : Int32} {s0 : Int32} : am_run 44 20 [none, some (.int l1), some (.ref l2), some (.int l3), some (.int l4), none] [.int s0] w = if s0 = nI 0 then am_run 44 32 [none, none, some (.ref l2), some (.int l3), some (.int l4), none] [.int l1] w else am_run 44 28 [none, none, some (.ref l2), some (.int l3), some (.int l4), none] [.int l1] w := by
  refine (bu (ls'' := [none, some (.int l1), some (.ref l2), some (.int l3), some (.int l4), some (.int s0)]) (st' := []) bf44_20 bf44_22 rfl rfl).trans ?_
  refine (bu (ls'' := [none, none, some (.ref l2), some (.int l3), some (.int l4), some (.int s0)]) (st' := [.int l1]) bf44_22 bf44_23 rfl rfl).trans ?_
  refine (bu (ls'' := [none, none, some (.ref l2), some (.int l3), some (.int l4), none]) (st' := [.int s0, .int l1]) bf44_23 bf44_25 rfl rfl).trans ?_
  exact bifc bf44_25 rfl bf44_32 bf44_28 rfl rfl rfl
theorem bk44_32 {w : am_Wd} {l2 : Nat} {l3 : Int32} {l4 : Int32} {s0 : Int32} : am_run 44 32 [none, none, some (.ref l2), some (.int l3), some (.int l4), none] [.int s0] w = am_run 44 33 [none, none, some (.ref l2), some (.int l3), some (.int l4), none] [.int (nI 0), .int s0] w := by
  refine (bu (ls'' := [none, none, some (.ref l2), some (.int l3), some (.int l4), none]) (st' := [.int (nI 0), .int s0]) bf44_32 bf44_33 rfl rfl).trans ?_
  rfl
theorem bk44_28 {w : am_Wd} {l2 : Nat} {l3 : Int32} {l4 : Int32} {s0 : Int32} : am_run 44 28 [none, none, some (.ref l2), some (.int l3), some (.int l4), none] [.int s0] w = am_run 44 33 [none, none, some (.ref l2), some (.int l3), some (.int l4), none] [.int (nI 1), .int s0] w := by
  refine (bu (ls'' := [none, none, some (.ref l2), some (.int l3), some (.int l4), none]) (st' := [.int (nI 1), .int s0]) bf44_28 bf44_29 rfl rfl).trans ?_
  refine (bu (ls'' := [none, none, some (.ref l2), some (.int l3), some (.int l4), none]) (st' := [.int (nI 1), .int s0]) bf44_29 bf44_33 rfl rfl).trans ?_
  rfl
theorem bk44_33 {w : am_Wd} {l2 : Nat} {l3 : Int32} {l4 : Int32} {s0 : Int32} {s1 : Int32} : am_run 44 33 [none, none, some (.ref l2), some (.int l3), some (.int l4), none] [.int s0, .int s1] w = am_run 44 10 [none, some (.int (s1 + s0)), some (.ref l2), some (.int l3), some (.int (l4 + (nI 1))), none] [] w := by
  refine (bu (ls'' := [none, none, some (.ref l2), some (.int l3), some (.int l4), none]) (st' := [.int (s1 + s0)]) bf44_33 bf44_34 rfl rfl).trans ?_
  refine (bu (ls'' := [none, some (.int (s1 + s0)), some (.ref l2), some (.int l3), some (.int l4), none]) (st' := []) bf44_34 bf44_35 rfl rfl).trans ?_
  refine (bu (ls'' := [none, some (.int (s1 + s0)), some (.ref l2), some (.int l3), some (.int (l4 + (nI 1))), none]) (st' := []) bf44_35 bf44_38 rfl rfl).trans ?_
  refine (bu (ls'' := [none, some (.int (s1 + s0)), some (.ref l2), some (.int l3), some (.int (l4 + (nI 1))), none]) (st' := []) bf44_38 bf44_10 rfl rfl).trans ?_
  rfl
theorem bf45_0 : am_fetch (am_mth 45) 0 = some (.iconst 0, 1, [], [1]) := by decide +kernel
theorem bf45_1 : am_fetch (am_mth 45) 1 = some (.istore_n 1, 1, [], [1]) := by decide +kernel
theorem bf45_2 : am_fetch (am_mth 45) 2 = some (.iload_n 1, 1, [], []) := by decide +kernel
theorem bf45_3 : am_fetch (am_mth 45) 3 = some (.sipush 144, 3, [], []) := by decide +kernel
theorem bf45_6 : am_fetch (am_mth 45) 6 = some (.if_icmp .ge 16, 3, [], []) := by decide +kernel
theorem bf45_9 : am_fetch (am_mth 45) 9 = some (.aload_n 0, 1, [], []) := by decide +kernel
theorem bf45_10 : am_fetch (am_mth 45) 10 = some (.getfield 97, 3, [0, 10, 3, 1307], []) := by decide +kernel
theorem bf45_13 : am_fetch (am_mth 45) 13 = some (.iload_n 1, 1, [], []) := by decide +kernel
theorem bf45_14 : am_fetch (am_mth 45) 14 = some (.iconst 1, 1, [], []) := by decide +kernel
theorem bf45_15 : am_fetch (am_mth 45) 15 = some (.bastore, 1, [2], []) := by decide +kernel
theorem bf45_16 : am_fetch (am_mth 45) 16 = some (.iinc 1 1, 3, [], []) := by decide +kernel
theorem bf45_19 : am_fetch (am_mth 45) 19 = some (.goto (-17), 3, [], []) := by decide +kernel
theorem bf45_22 : am_fetch (am_mth 45) 22 = some (.return_, 1, [], [0, 1]) := by decide +kernel
theorem bk45_0 {w : am_Wd} {l0 : Nat} : am_run 45 0 [some (.ref l0), none] [] w = am_run 45 2 [some (.ref l0), some (.int (nI 0))] [] w := by
  refine (bu (ls'' := [some (.ref l0), none]) (st' := [.int (nI 0)]) bf45_0 bf45_1 rfl rfl).trans ?_
  refine (bu (ls'' := [some (.ref l0), some (.int (nI 0))]) (st' := []) bf45_1 bf45_2 rfl rfl).trans ?_
  rfl
theorem bk45_2 {w : am_Wd} {l0 : Nat} {l1 : Int32} : am_run 45 2 [some (.ref l0), some (.int l1)] [] w = if (nI 144) ≤ l1 then am_run 45 22 [none, none] [] w else am_run 45 9 [some (.ref l0), some (.int l1)] [] w := by
  refine (bu (ls'' := [some (.ref l0), some (.int l1)]) (st' := [.int l1]) bf45_2 bf45_3 rfl rfl).trans ?_
  refine (bu (ls'' := [some (.ref l0), some (.int l1)]) (st' := [.int (nI 144), .int l1]) bf45_3 bf45_6 rfl rfl).trans ?_
  exact bic bf45_6 rfl bf45_22 bf45_9 rfl rfl rfl
theorem bk45_22 {w : am_Wd}  : am_run 45 22 [none, none] [] w = some (.inl none, w) := by
  exact am_e2 bf45_22 rfl (am_ge_rf w)
theorem bk45_9 {w : am_Wd} {l0 : Nat} {l1 : Int32} : am_run 45 9 [some (.ref l0), some (.int l1)] [] w = (am_gf w l0 10 3).bind fun v => am_run 45 13 [some (.ref l0), some (.int l1)] (v :: []) w := by
  refine (bu (ls'' := [some (.ref l0), some (.int l1)]) (st' := [.ref l0]) bf45_9 bf45_10 rfl rfl).trans ?_
  exact bh bf45_10 bf45_13 rfl (fun _ _ => am_ge_rf w) rfl
theorem bk45_13 {w : am_Wd} {l0 : Nat} {l1 : Int32} {s0 : Nat} : am_run 45 13 [some (.ref l0), some (.int l1)] [.ref s0] w = (am_wi 2 w s0 l1 (vp_nar .boolean (nI 1))).bind fun w' => am_run 45 16 [some (.ref l0), some (.int l1)] [] w' := by
  refine (bu (ls'' := [some (.ref l0), some (.int l1)]) (st' := [.int l1, .ref s0]) bf45_13 bf45_14 rfl rfl).trans ?_
  refine (bu (ls'' := [some (.ref l0), some (.int l1)]) (st' := [.int (nI 1), .int l1, .ref s0]) bf45_14 bf45_15 rfl rfl).trans ?_
  exact bh bf45_15 bf45_16 rfl (bge_wi) rfl
theorem bk45_16 {w : am_Wd} {l0 : Nat} {l1 : Int32} : am_run 45 16 [some (.ref l0), some (.int l1)] [] w = am_run 45 2 [some (.ref l0), some (.int (l1 + (nI 1)))] [] w := by
  refine (bu (ls'' := [some (.ref l0), some (.int (l1 + (nI 1)))]) (st' := []) bf45_16 bf45_19 rfl rfl).trans ?_
  refine (bu (ls'' := [some (.ref l0), some (.int (l1 + (nI 1)))]) (st' := []) bf45_19 bf45_2 rfl rfl).trans ?_
  rfl
theorem bf46_0 : am_fetch (am_mth 46) 0 = some (.aload_n 1, 1, [], []) := by decide +kernel
theorem bf46_1 : am_fetch (am_mth 46) 1 = some (.dup, 1, [], []) := by decide +kernel
theorem bf46_2 : am_fetch (am_mth 46) 2 = some (.getfield 140, 3, [0, 10, 6, 1311], []) := by decide +kernel
theorem bf46_5 : am_fetch (am_mth 46) 5 = some (.iconst 1, 1, [], []) := by decide +kernel
theorem bf46_6 : am_fetch (am_mth 46) 6 = some (.iadd, 1, [], []) := by decide +kernel
theorem bf46_7 : am_fetch (am_mth 46) 7 = some (.putfield 140, 3, [0, 10, 6, 1311], []) := by decide +kernel
theorem bf46_10 : am_fetch (am_mth 46) 10 = some (.aload_n 1, 1, [], []) := by decide +kernel
theorem bf46_11 : am_fetch (am_mth 46) 11 = some (.dup, 1, [], [1]) := by decide +kernel
theorem bf46_12 : am_fetch (am_mth 46) 12 = some (.getfield 107, 3, [0, 10, 2, 1305], [1]) := by decide +kernel
theorem bf46_15 : am_fetch (am_mth 46) 15 = some (.iconst 1, 1, [], [1]) := by decide +kernel
theorem bf46_16 : am_fetch (am_mth 46) 16 = some (.isub, 1, [], [1]) := by decide +kernel
theorem bf46_17 : am_fetch (am_mth 46) 17 = some (.putfield 107, 3, [0, 10, 2, 1305], [1]) := by decide +kernel
theorem bf46_20 : am_fetch (am_mth 46) 20 = some (.aload_n 0, 1, [], [1]) := by decide +kernel
theorem bf46_21 : am_fetch (am_mth 46) 21 = some (.dup, 1, [], [0, 1]) := by decide +kernel
theorem bf46_22 : am_fetch (am_mth 46) 22 = some (.getfield 54, 3, [0, 11, 1, 1198], [0, 1]) := by decide +kernel
theorem bf46_25 : am_fetch (am_mth 46) 25 = some (.iconst 1, 1, [], [0, 1]) := by decide +kernel
theorem bf46_26 : am_fetch (am_mth 46) 26 = some (.iadd, 1, [], [0, 1]) := by decide +kernel
theorem bf46_27 : am_fetch (am_mth 46) 27 = some (.putfield 54, 3, [0, 11, 1, 1198], [0, 1]) := by decide +kernel
theorem bf46_30 : am_fetch (am_mth 46) 30 = some (.return_, 1, [], [0, 1]) := by decide +kernel
theorem bk46_0 {w : am_Wd} {l0 : Nat} {l1 : Nat} : am_run 46 0 [some (.ref l0), some (.ref l1)] [] w = (am_gf w l1 10 6).bind fun v => am_run 46 5 [some (.ref l0), some (.ref l1)] (v :: [.ref l1]) w := by
  refine (bu (ls'' := [some (.ref l0), some (.ref l1)]) (st' := [.ref l1]) bf46_0 bf46_1 rfl rfl).trans ?_
  refine (bu (ls'' := [some (.ref l0), some (.ref l1)]) (st' := [.ref l1, .ref l1]) bf46_1 bf46_2 rfl rfl).trans ?_
  exact bh bf46_2 bf46_5 rfl (fun _ _ => am_ge_rf w) rfl
theorem bk46_5 {w : am_Wd} {l0 : Nat} {l1 : Nat} {s0 : Int32} {s1 : Nat} : am_run 46 5 [some (.ref l0), some (.ref l1)] [.int s0, .ref s1] w = (am_pf w s1 10 6 (.int (s0 + (nI 1)))).bind fun w' => am_run 46 10 [some (.ref l0), some (.ref l1)] [] w' := by
  refine (bu (ls'' := [some (.ref l0), some (.ref l1)]) (st' := [.int (nI 1), .int s0, .ref s1]) bf46_5 bf46_6 rfl rfl).trans ?_
  refine (bu (ls'' := [some (.ref l0), some (.ref l1)]) (st' := [.int (s0 + (nI 1)), .ref s1]) bf46_6 bf46_7 rfl rfl).trans ?_
  exact bh bf46_7 bf46_10 rfl (bge_pf) rfl
theorem bk46_10 {w : am_Wd} {l0 : Nat} {l1 : Nat} : am_run 46 10 [some (.ref l0), some (.ref l1)] [] w = (am_gf w l1 10 2).bind fun v => am_run 46 15 [some (.ref l0), none] (v :: [.ref l1]) w := by
  refine (bu (ls'' := [some (.ref l0), none]) (st' := [.ref l1]) bf46_10 bf46_11 rfl rfl).trans ?_
  refine (bu (ls'' := [some (.ref l0), none]) (st' := [.ref l1, .ref l1]) bf46_11 bf46_12 rfl rfl).trans ?_
  exact bh bf46_12 bf46_15 rfl (fun _ _ => am_ge_rf w) rfl
theorem bk46_15 {w : am_Wd} {l0 : Nat} {s0 : Int32} {s1 : Nat} : am_run 46 15 [some (.ref l0), none] [.int s0, .ref s1] w = (am_pf w s1 10 2 (.int (s0 - (nI 1)))).bind fun w' => am_run 46 20 [some (.ref l0), none] [] w' := by
  refine (bu (ls'' := [some (.ref l0), none]) (st' := [.int (nI 1), .int s0, .ref s1]) bf46_15 bf46_16 rfl rfl).trans ?_
  refine (bu (ls'' := [some (.ref l0), none]) (st' := [.int (s0 - (nI 1)), .ref s1]) bf46_16 bf46_17 rfl rfl).trans ?_
  exact bh bf46_17 bf46_20 rfl (bge_pf) rfl
theorem bk46_20 {w : am_Wd} {l0 : Nat} : am_run 46 20 [some (.ref l0), none] [] w = (am_gf w l0 11 1).bind fun v => am_run 46 25 [none, none] (v :: [.ref l0]) w := by
  refine (bu (ls'' := [none, none]) (st' := [.ref l0]) bf46_20 bf46_21 rfl rfl).trans ?_
  refine (bu (ls'' := [none, none]) (st' := [.ref l0, .ref l0]) bf46_21 bf46_22 rfl rfl).trans ?_
  exact bh bf46_22 bf46_25 rfl (fun _ _ => am_ge_rf w) rfl
theorem bk46_25 {w : am_Wd} {s0 : Int32} {s1 : Nat} : am_run 46 25 [none, none] [.int s0, .ref s1] w = (am_pf w s1 11 1 (.int (s0 + (nI 1)))).bind fun w' => am_run 46 30 [none, none] [] w' := by
  refine (bu (ls'' := [none, none]) (st' := [.int (nI 1), .int s0, .ref s1]) bf46_25 bf46_26 rfl rfl).trans ?_
  refine (bu (ls'' := [none, none]) (st' := [.int (s0 + (nI 1)), .ref s1]) bf46_26 bf46_27 rfl rfl).trans ?_
  exact bh bf46_27 bf46_30 rfl (bge_pf) rfl
theorem bk46_30 {w : am_Wd}  : am_run 46 30 [none, none] [] w = some (.inl none, w) := by
  exact am_e2 bf46_30 rfl (am_ge_rf w)
theorem bf47_0 : am_fetch (am_mth 47) 0 = some (.aload_n 0, 1, [], []) := by decide +kernel
theorem bf47_1 : am_fetch (am_mth 47) 1 = some (.iconst 0, 1, [], []) := by decide +kernel
theorem bf47_2 : am_fetch (am_mth 47) 2 = some (.putfield 35, 3, [0, 11, 0, 1197], []) := by decide +kernel
theorem bf47_5 : am_fetch (am_mth 47) 5 = some (.aload_n 0, 1, [], []) := by decide +kernel
theorem bf47_6 : am_fetch (am_mth 47) 6 = some (.dup, 1, [], [0]) := by decide +kernel
theorem bf47_7 : am_fetch (am_mth 47) 7 = some (.getfield 225, 3, [0, 11, 6, 1203], [0]) := by decide +kernel
theorem bf47_10 : am_fetch (am_mth 47) 10 = some (.iconst 1, 1, [], [0]) := by decide +kernel
theorem bf47_11 : am_fetch (am_mth 47) 11 = some (.iadd, 1, [], [0]) := by decide +kernel
theorem bf47_12 : am_fetch (am_mth 47) 12 = some (.dup_x1, 1, [], [0]) := by decide +kernel
theorem bf47_13 : am_fetch (am_mth 47) 13 = some (.putfield 225, 3, [0, 11, 6, 1203], [0]) := by decide +kernel
theorem bf47_16 : am_fetch (am_mth 47) 16 = some (.ireturn, 1, [0], [0]) := by decide +kernel
theorem bk47_0 {w : am_Wd} {l0 : Nat} : am_run 47 0 [some (.ref l0)] [] w = (am_pf w l0 11 0 (.int (nI 0))).bind fun w' => am_run 47 5 [some (.ref l0)] [] w' := by
  refine (bu (ls'' := [some (.ref l0)]) (st' := [.ref l0]) bf47_0 bf47_1 rfl rfl).trans ?_
  refine (bu (ls'' := [some (.ref l0)]) (st' := [.int (nI 0), .ref l0]) bf47_1 bf47_2 rfl rfl).trans ?_
  exact bh bf47_2 bf47_5 rfl (bge_pf) rfl
theorem bk47_5 {w : am_Wd} {l0 : Nat} : am_run 47 5 [some (.ref l0)] [] w = (am_gf w l0 11 6).bind fun v => am_run 47 10 [none] (v :: [.ref l0]) w := by
  refine (bu (ls'' := [none]) (st' := [.ref l0]) bf47_5 bf47_6 rfl rfl).trans ?_
  refine (bu (ls'' := [none]) (st' := [.ref l0, .ref l0]) bf47_6 bf47_7 rfl rfl).trans ?_
  exact bh bf47_7 bf47_10 rfl (fun _ _ => am_ge_rf w) rfl
theorem bk47_10 {w : am_Wd} {s0 : Int32} {s1 : Nat} : am_run 47 10 [none] [.int s0, .ref s1] w = (am_pf w s1 11 6 (.int (s0 + (nI 1)))).bind fun w' => am_run 47 16 [none] [.int (s0 + (nI 1))] w' := by
  refine (bu (ls'' := [none]) (st' := [.int (nI 1), .int s0, .ref s1]) bf47_10 bf47_11 rfl rfl).trans ?_
  refine (bu (ls'' := [none]) (st' := [.int (s0 + (nI 1)), .ref s1]) bf47_11 bf47_12 rfl rfl).trans ?_
  refine (bu (ls'' := [none]) (st' := [.int (s0 + (nI 1)), .ref s1, .int (s0 + (nI 1))]) bf47_12 bf47_13 rfl rfl).trans ?_
  exact bh bf47_13 bf47_16 rfl (bge_pf) rfl
theorem bk47_16 {w : am_Wd} {s0 : Int32} : am_run 47 16 [none] [.int s0] w = some (.inl (some (.int s0)), w) := by
  exact am_e2 bf47_16 rfl (am_ge_rf w)
theorem bf48_0 : am_fetch (am_mth 48) 0 = some (.lconst 0, 1, [], [0, 3, 4, 5]) := by decide +kernel
theorem bf48_1 : am_fetch (am_mth 48) 1 = some (.lstore_n 3, 1, [], [0, 3, 4, 5]) := by decide +kernel
theorem bf48_2 : am_fetch (am_mth 48) 2 = some (.iconst 0, 1, [], [0, 4, 5]) := by decide +kernel
theorem bf48_3 : am_fetch (am_mth 48) 3 = some (.istore 5, 2, [], [0, 4, 5]) := by decide +kernel
theorem bf48_5 : am_fetch (am_mth 48) 5 = some (.iload 5, 2, [], [0, 4]) := by decide +kernel
theorem bf48_7 : am_fetch (am_mth 48) 7 = some (.bipush 36, 2, [], [0, 4]) := by decide +kernel
theorem bf48_9 : am_fetch (am_mth 48) 9 = some (.if_icmp .ge 34, 3, [], [0, 4]) := by decide +kernel
theorem bf48_12 : am_fetch (am_mth 48) 12 = some (.lload_n 3, 1, [], [0, 4]) := by decide +kernel
theorem bf48_13 : am_fetch (am_mth 48) 13 = some (.aload_n 1, 1, [], [0, 3, 4]) := by decide +kernel
theorem bf48_14 : am_fetch (am_mth 48) 14 = some (.getfield 97, 3, [0, 10, 3, 1307], [0, 3, 4]) := by decide +kernel
theorem bf48_17 : am_fetch (am_mth 48) 17 = some (.iconst 4, 1, [], [0, 3, 4]) := by decide +kernel
theorem bf48_18 : am_fetch (am_mth 48) 18 = some (.iload 5, 2, [], [0, 3, 4]) := by decide +kernel
theorem bf48_20 : am_fetch (am_mth 48) 20 = some (.imul, 1, [], [0, 3, 4]) := by decide +kernel
theorem bf48_21 : am_fetch (am_mth 48) 21 = some (.iload_n 2, 1, [], [0, 3, 4]) := by decide +kernel
theorem bf48_22 : am_fetch (am_mth 48) 22 = some (.iadd, 1, [], [0, 3, 4]) := by decide +kernel
theorem bf48_23 : am_fetch (am_mth 48) 23 = some (.baload, 1, [2], [0, 3, 4]) := by decide +kernel
theorem bf48_24 : am_fetch (am_mth 48) 24 = some (.ifCond .eq 10, 3, [], [0, 3, 4]) := by decide +kernel
theorem bf48_27 : am_fetch (am_mth 48) 27 = some (.lconst 1, 1, [], [0, 3, 4]) := by decide +kernel
theorem bf48_28 : am_fetch (am_mth 48) 28 = some (.iload 5, 2, [], [0, 3, 4]) := by decide +kernel
theorem bf48_30 : am_fetch (am_mth 48) 30 = some (.lshl, 1, [], [0, 3, 4]) := by decide +kernel
theorem bf48_31 : am_fetch (am_mth 48) 31 = some (.goto 4, 3, [], [0, 3, 4]) := by decide +kernel
theorem bf48_34 : am_fetch (am_mth 48) 34 = some (.lconst 0, 1, [], [0, 3, 4]) := by decide +kernel
theorem bf48_35 : am_fetch (am_mth 48) 35 = some (.lor, 1, [], [0, 3, 4]) := by decide +kernel
theorem bf48_36 : am_fetch (am_mth 48) 36 = some (.lstore_n 3, 1, [], [0, 3, 4]) := by decide +kernel
theorem bf48_37 : am_fetch (am_mth 48) 37 = some (.iinc 5 1, 3, [], [0, 4]) := by decide +kernel
theorem bf48_40 : am_fetch (am_mth 48) 40 = some (.goto (-35), 3, [], [0, 4]) := by decide +kernel
theorem bf48_43 : am_fetch (am_mth 48) 43 = some (.lload_n 3, 1, [], [0, 1, 2, 4, 5]) := by decide +kernel
theorem bf48_44 : am_fetch (am_mth 48) 44 = some (.lreturn, 1, [], [0, 1, 2, 3, 4, 5]) := by decide +kernel
theorem bk48_0 {w : am_Wd} {l1 : Nat} {l2 : Int32} : am_run 48 0 [none, some (.ref l1), some (.int l2), none, none, none] [] w = am_run 48 5 [none, some (.ref l1), some (.int l2), some (.long (lN 0)), none, some (.int (nI 0))] [] w := by
  refine (bu (ls'' := [none, some (.ref l1), some (.int l2), none, none, none]) (st' := [.long (lN 0)]) bf48_0 bf48_1 rfl rfl).trans ?_
  refine (bu (ls'' := [none, some (.ref l1), some (.int l2), some (.long (lN 0)), none, none]) (st' := []) bf48_1 bf48_2 rfl rfl).trans ?_
  refine (bu (ls'' := [none, some (.ref l1), some (.int l2), some (.long (lN 0)), none, none]) (st' := [.int (nI 0)]) bf48_2 bf48_3 rfl rfl).trans ?_
  refine (bu (ls'' := [none, some (.ref l1), some (.int l2), some (.long (lN 0)), none, some (.int (nI 0))]) (st' := []) bf48_3 bf48_5 rfl rfl).trans ?_
  rfl
theorem bk48_5 {w : am_Wd} {l1 : Nat} {l2 : Int32} {l3 : Int64} {l5 : Int32} : am_run 48 5 [none, some (.ref l1), some (.int l2), some (.long l3), none, some (.int l5)] [] w = if (nI 36) ≤ l5 then am_run 48 43 [none, none, none, some (.long l3), none, none] [] w else am_run 48 12 [none, some (.ref l1), some (.int l2), some (.long l3), none, some (.int l5)] [] w := by
  refine (bu (ls'' := [none, some (.ref l1), some (.int l2), some (.long l3), none, some (.int l5)]) (st' := [.int l5]) bf48_5 bf48_7 rfl rfl).trans ?_
  refine (bu (ls'' := [none, some (.ref l1), some (.int l2), some (.long l3), none, some (.int l5)]) (st' := [.int (nI 36), .int l5]) bf48_7 bf48_9 rfl rfl).trans ?_
  exact bic bf48_9 rfl bf48_43 bf48_12 rfl rfl rfl
theorem bk48_43 {w : am_Wd} {l3 : Int64} : am_run 48 43 [none, none, none, some (.long l3), none, none] [] w = some (.inl (some (.long l3)), w) := by
  refine (bu (ls'' := [none, none, none, none, none, none]) (st' := [.long l3]) bf48_43 bf48_44 rfl rfl).trans ?_
  exact am_e2 bf48_44 rfl (am_ge_rf w)
theorem bk48_12 {w : am_Wd} {l1 : Nat} {l2 : Int32} {l3 : Int64} {l5 : Int32} : am_run 48 12 [none, some (.ref l1), some (.int l2), some (.long l3), none, some (.int l5)] [] w = (am_gf w l1 10 3).bind fun v => am_run 48 17 [none, some (.ref l1), some (.int l2), none, none, some (.int l5)] (v :: [.long l3]) w := by
  refine (bu (ls'' := [none, some (.ref l1), some (.int l2), none, none, some (.int l5)]) (st' := [.long l3]) bf48_12 bf48_13 rfl rfl).trans ?_
  refine (bu (ls'' := [none, some (.ref l1), some (.int l2), none, none, some (.int l5)]) (st' := [.ref l1, .long l3]) bf48_13 bf48_14 rfl rfl).trans ?_
  exact bh bf48_14 bf48_17 rfl (fun _ _ => am_ge_rf w) rfl
theorem bk48_17 {w : am_Wd} {l1 : Nat} {l2 : Int32} {l5 : Int32} {s0 : Nat} {s1 : Int64} : am_run 48 17 [none, some (.ref l1), some (.int l2), none, none, some (.int l5)] [.ref s0, .long s1] w = (am_ri 2 w s0 (((nI 4) * l5) + l2)).bind fun v => am_run 48 24 [none, some (.ref l1), some (.int l2), none, none, some (.int l5)] (.int v :: [.long s1]) w := by
  refine (bu (ls'' := [none, some (.ref l1), some (.int l2), none, none, some (.int l5)]) (st' := [.int (nI 4), .ref s0, .long s1]) bf48_17 bf48_18 rfl rfl).trans ?_
  refine (bu (ls'' := [none, some (.ref l1), some (.int l2), none, none, some (.int l5)]) (st' := [.int l5, .int (nI 4), .ref s0, .long s1]) bf48_18 bf48_20 rfl rfl).trans ?_
  refine (bu (ls'' := [none, some (.ref l1), some (.int l2), none, none, some (.int l5)]) (st' := [.int ((nI 4) * l5), .ref s0, .long s1]) bf48_20 bf48_21 rfl rfl).trans ?_
  refine (bu (ls'' := [none, some (.ref l1), some (.int l2), none, none, some (.int l5)]) (st' := [.int l2, .int ((nI 4) * l5), .ref s0, .long s1]) bf48_21 bf48_22 rfl rfl).trans ?_
  refine (bu (ls'' := [none, some (.ref l1), some (.int l2), none, none, some (.int l5)]) (st' := [.int (((nI 4) * l5) + l2), .ref s0, .long s1]) bf48_22 bf48_23 rfl rfl).trans ?_
  exact bh bf48_23 bf48_24 rfl (fun _ _ => am_ge_rf w) rfl
theorem bk48_24 {w : am_Wd} {l1 : Nat} {l2 : Int32} {l5 : Int32} {s0 : Int32} {s1 : Int64} : am_run 48 24 [none, some (.ref l1), some (.int l2), none, none, some (.int l5)] [.int s0, .long s1] w = if s0 = nI 0 then am_run 48 34 [none, some (.ref l1), some (.int l2), none, none, some (.int l5)] [.long s1] w else am_run 48 27 [none, some (.ref l1), some (.int l2), none, none, some (.int l5)] [.long s1] w := by
  exact bifc bf48_24 rfl bf48_34 bf48_27 rfl rfl rfl
theorem bk48_34 {w : am_Wd} {l1 : Nat} {l2 : Int32} {l5 : Int32} {s0 : Int64} : am_run 48 34 [none, some (.ref l1), some (.int l2), none, none, some (.int l5)] [.long s0] w = am_run 48 35 [none, some (.ref l1), some (.int l2), none, none, some (.int l5)] [.long (lN 0), .long s0] w := by
  refine (bu (ls'' := [none, some (.ref l1), some (.int l2), none, none, some (.int l5)]) (st' := [.long (lN 0), .long s0]) bf48_34 bf48_35 rfl rfl).trans ?_
  rfl
theorem bk48_27 {w : am_Wd} {l1 : Nat} {l2 : Int32} {l5 : Int32} {s0 : Int64} : am_run 48 27 [none, some (.ref l1), some (.int l2), none, none, some (.int l5)] [.long s0] w = am_run 48 35 [none, some (.ref l1), some (.int l2), none, none, some (.int l5)] [.long (bj_lshl (lN 1) l5), .long s0] w := by
  refine (bu (ls'' := [none, some (.ref l1), some (.int l2), none, none, some (.int l5)]) (st' := [.long (lN 1), .long s0]) bf48_27 bf48_28 rfl rfl).trans ?_
  refine (bu (ls'' := [none, some (.ref l1), some (.int l2), none, none, some (.int l5)]) (st' := [.int l5, .long (lN 1), .long s0]) bf48_28 bf48_30 rfl rfl).trans ?_
  refine (bu (ls'' := [none, some (.ref l1), some (.int l2), none, none, some (.int l5)]) (st' := [.long (bj_lshl (lN 1) l5), .long s0]) bf48_30 bf48_31 rfl rfl).trans ?_
  refine (bu (ls'' := [none, some (.ref l1), some (.int l2), none, none, some (.int l5)]) (st' := [.long (bj_lshl (lN 1) l5), .long s0]) bf48_31 bf48_35 rfl rfl).trans ?_
  rfl
theorem bk48_35 {w : am_Wd} {l1 : Nat} {l2 : Int32} {l5 : Int32} {s0 : Int64} {s1 : Int64} : am_run 48 35 [none, some (.ref l1), some (.int l2), none, none, some (.int l5)] [.long s0, .long s1] w = am_run 48 5 [none, some (.ref l1), some (.int l2), some (.long (s1 ||| s0)), none, some (.int (l5 + (nI 1)))] [] w := by
  refine (bu (ls'' := [none, some (.ref l1), some (.int l2), none, none, some (.int l5)]) (st' := [.long (s1 ||| s0)]) bf48_35 bf48_36 rfl rfl).trans ?_
  refine (bu (ls'' := [none, some (.ref l1), some (.int l2), some (.long (s1 ||| s0)), none, some (.int l5)]) (st' := []) bf48_36 bf48_37 rfl rfl).trans ?_
  refine (bu (ls'' := [none, some (.ref l1), some (.int l2), some (.long (s1 ||| s0)), none, some (.int (l5 + (nI 1)))]) (st' := []) bf48_37 bf48_40 rfl rfl).trans ?_
  refine (bu (ls'' := [none, some (.ref l1), some (.int l2), some (.long (s1 ||| s0)), none, some (.int (l5 + (nI 1)))]) (st' := []) bf48_40 bf48_5 rfl rfl).trans ?_
  rfl
theorem bf49_0 : am_fetch (am_mth 49) 0 = some (.iconst 0, 1, [], [0, 2, 3]) := by decide +kernel
theorem bf49_1 : am_fetch (am_mth 49) 1 = some (.istore_n 2, 1, [], [0, 2, 3]) := by decide +kernel
theorem bf49_2 : am_fetch (am_mth 49) 2 = some (.iconst 0, 1, [], [0, 3]) := by decide +kernel
theorem bf49_3 : am_fetch (am_mth 49) 3 = some (.istore_n 3, 1, [], [0, 3]) := by decide +kernel
theorem bf49_4 : am_fetch (am_mth 49) 4 = some (.iload_n 3, 1, [], [0]) := by decide +kernel
theorem bf49_5 : am_fetch (am_mth 49) 5 = some (.bipush 36, 2, [], [0]) := by decide +kernel
theorem bf49_7 : am_fetch (am_mth 49) 7 = some (.if_icmp .ge 67, 3, [], [0]) := by decide +kernel
theorem bf49_10 : am_fetch (am_mth 49) 10 = some (.iload_n 2, 1, [], [0]) := by decide +kernel
theorem bf49_11 : am_fetch (am_mth 49) 11 = some (.aload_n 1, 1, [], [0, 2]) := by decide +kernel
theorem bf49_12 : am_fetch (am_mth 49) 12 = some (.getfield 97, 3, [0, 10, 3, 1307], [0, 2]) := by decide +kernel
theorem bf49_15 : am_fetch (am_mth 49) 15 = some (.iconst 4, 1, [], [0, 2]) := by decide +kernel
theorem bf49_16 : am_fetch (am_mth 49) 16 = some (.iload_n 3, 1, [], [0, 2]) := by decide +kernel
theorem bf49_17 : am_fetch (am_mth 49) 17 = some (.imul, 1, [], [0, 2]) := by decide +kernel
theorem bf49_18 : am_fetch (am_mth 49) 18 = some (.baload, 1, [2], [0, 2]) := by decide +kernel
theorem bf49_19 : am_fetch (am_mth 49) 19 = some (.ifCond .ne 42, 3, [], [0, 2]) := by decide +kernel
theorem bf49_22 : am_fetch (am_mth 49) 22 = some (.aload_n 1, 1, [], [0, 2]) := by decide +kernel
theorem bf49_23 : am_fetch (am_mth 49) 23 = some (.getfield 97, 3, [0, 10, 3, 1307], [0, 2]) := by decide +kernel
theorem bf49_26 : am_fetch (am_mth 49) 26 = some (.iconst 4, 1, [], [0, 2]) := by decide +kernel
theorem bf49_27 : am_fetch (am_mth 49) 27 = some (.iload_n 3, 1, [], [0, 2]) := by decide +kernel
theorem bf49_28 : am_fetch (am_mth 49) 28 = some (.imul, 1, [], [0, 2]) := by decide +kernel
theorem bf49_29 : am_fetch (am_mth 49) 29 = some (.iconst 1, 1, [], [0, 2]) := by decide +kernel
theorem bf49_30 : am_fetch (am_mth 49) 30 = some (.iadd, 1, [], [0, 2]) := by decide +kernel
theorem bf49_31 : am_fetch (am_mth 49) 31 = some (.baload, 1, [2], [0, 2]) := by decide +kernel
theorem bf49_32 : am_fetch (am_mth 49) 32 = some (.ifCond .ne 29, 3, [], [0, 2]) := by decide +kernel
theorem bf49_35 : am_fetch (am_mth 49) 35 = some (.aload_n 1, 1, [], [0, 2]) := by decide +kernel
theorem bf49_36 : am_fetch (am_mth 49) 36 = some (.getfield 97, 3, [0, 10, 3, 1307], [0, 2]) := by decide +kernel
theorem bf49_39 : am_fetch (am_mth 49) 39 = some (.iconst 4, 1, [], [0, 2]) := by decide +kernel
theorem bf49_40 : am_fetch (am_mth 49) 40 = some (.iload_n 3, 1, [], [0, 2]) := by decide +kernel
theorem bf49_41 : am_fetch (am_mth 49) 41 = some (.imul, 1, [], [0, 2]) := by decide +kernel
theorem bf49_42 : am_fetch (am_mth 49) 42 = some (.iconst 2, 1, [], [0, 2]) := by decide +kernel
theorem bf49_43 : am_fetch (am_mth 49) 43 = some (.iadd, 1, [], [0, 2]) := by decide +kernel
theorem bf49_44 : am_fetch (am_mth 49) 44 = some (.baload, 1, [2], [0, 2]) := by decide +kernel
theorem bf49_45 : am_fetch (am_mth 49) 45 = some (.ifCond .ne 16, 3, [], [0, 2]) := by decide +kernel
theorem bf49_48 : am_fetch (am_mth 49) 48 = some (.aload_n 1, 1, [], [0, 2]) := by decide +kernel
theorem bf49_49 : am_fetch (am_mth 49) 49 = some (.getfield 97, 3, [0, 10, 3, 1307], [0, 2]) := by decide +kernel
theorem bf49_52 : am_fetch (am_mth 49) 52 = some (.iconst 4, 1, [], [0, 2]) := by decide +kernel
theorem bf49_53 : am_fetch (am_mth 49) 53 = some (.iload_n 3, 1, [], [0, 2]) := by decide +kernel
theorem bf49_54 : am_fetch (am_mth 49) 54 = some (.imul, 1, [], [0, 2]) := by decide +kernel
theorem bf49_55 : am_fetch (am_mth 49) 55 = some (.iconst 3, 1, [], [0, 2]) := by decide +kernel
theorem bf49_56 : am_fetch (am_mth 49) 56 = some (.iadd, 1, [], [0, 2]) := by decide +kernel
theorem bf49_57 : am_fetch (am_mth 49) 57 = some (.baload, 1, [2], [0, 2]) := by decide +kernel
theorem bf49_58 : am_fetch (am_mth 49) 58 = some (.ifCond .eq 7, 3, [], [0, 2]) := by decide +kernel
theorem bf49_61 : am_fetch (am_mth 49) 61 = some (.iconst 1, 1, [], [0, 2]) := by decide +kernel
theorem bf49_62 : am_fetch (am_mth 49) 62 = some (.goto 4, 3, [], [0, 2]) := by decide +kernel
theorem bf49_65 : am_fetch (am_mth 49) 65 = some (.iconst 0, 1, [], [0, 2]) := by decide +kernel
theorem bf49_66 : am_fetch (am_mth 49) 66 = some (.iadd, 1, [], [0, 2]) := by decide +kernel
theorem bf49_67 : am_fetch (am_mth 49) 67 = some (.istore_n 2, 1, [], [0, 2]) := by decide +kernel
theorem bf49_68 : am_fetch (am_mth 49) 68 = some (.iinc 3 1, 3, [], [0]) := by decide +kernel
theorem bf49_71 : am_fetch (am_mth 49) 71 = some (.goto (-67), 3, [], [0]) := by decide +kernel
theorem bf49_74 : am_fetch (am_mth 49) 74 = some (.iload_n 2, 1, [], [0, 1, 3]) := by decide +kernel
theorem bf49_75 : am_fetch (am_mth 49) 75 = some (.i2d, 1, [], [0, 1, 2, 3]) := by decide +kernel
theorem bf49_76 : am_fetch (am_mth 49) 76 = some (.ldc2_w 283, 3, [1, 4630263366890291200, 1660], [0, 1, 2, 3]) := by decide +kernel
theorem bf49_79 : am_fetch (am_mth 49) 79 = some (.ddiv, 1, [], [0, 1, 2, 3]) := by decide +kernel
theorem bf49_80 : am_fetch (am_mth 49) 80 = some (.dreturn, 1, [], [0, 1, 2, 3]) := by decide +kernel
theorem bk49_0 {w : am_Wd} {l1 : Nat} : am_run 49 0 [none, some (.ref l1), none, none] [] w = am_run 49 4 [none, some (.ref l1), some (.int (nI 0)), some (.int (nI 0))] [] w := by
  refine (bu (ls'' := [none, some (.ref l1), none, none]) (st' := [.int (nI 0)]) bf49_0 bf49_1 rfl rfl).trans ?_
  refine (bu (ls'' := [none, some (.ref l1), some (.int (nI 0)), none]) (st' := []) bf49_1 bf49_2 rfl rfl).trans ?_
  refine (bu (ls'' := [none, some (.ref l1), some (.int (nI 0)), none]) (st' := [.int (nI 0)]) bf49_2 bf49_3 rfl rfl).trans ?_
  refine (bu (ls'' := [none, some (.ref l1), some (.int (nI 0)), some (.int (nI 0))]) (st' := []) bf49_3 bf49_4 rfl rfl).trans ?_
  rfl
theorem bk49_4 {w : am_Wd} {l1 : Nat} {l2 : Int32} {l3 : Int32} : am_run 49 4 [none, some (.ref l1), some (.int l2), some (.int l3)] [] w = if (nI 36) ≤ l3 then am_run 49 74 [none, none, some (.int l2), none] [] w else am_run 49 10 [none, some (.ref l1), some (.int l2), some (.int l3)] [] w := by
  refine (bu (ls'' := [none, some (.ref l1), some (.int l2), some (.int l3)]) (st' := [.int l3]) bf49_4 bf49_5 rfl rfl).trans ?_
  refine (bu (ls'' := [none, some (.ref l1), some (.int l2), some (.int l3)]) (st' := [.int (nI 36), .int l3]) bf49_5 bf49_7 rfl rfl).trans ?_
  exact bic bf49_7 rfl bf49_74 bf49_10 rfl rfl rfl
theorem bk49_74 {w : am_Wd} {l2 : Int32} (hn : (FP.ddiv (FP.i2d l2) (4630263366890291200 : UInt64)) &&& 0x7fffffffffffffff ≤ 0x7ff0000000000000) : am_run 49 74 [none, none, some (.int l2), none] [] w = am_run 49 80 [none, none, none, none] [.double (FP.ddiv (FP.i2d l2) (4630263366890291200 : UInt64))] w := by
  refine (bu (ls'' := [none, none, none, none]) (st' := [.int l2]) bf49_74 bf49_75 rfl rfl).trans ?_
  refine (bu (ls'' := [none, none, none, none]) (st' := [.double (FP.i2d l2)]) bf49_75 bf49_76 rfl rfl).trans ?_
  refine (bu (ls'' := [none, none, none, none]) (st' := [.double (4630263366890291200 : UInt64), .double (FP.i2d l2)]) bf49_76 bf49_79 rfl rfl).trans ?_
  exact bdd (h := inferInstance) bf49_79 bf49_80 (fun h => by unfold am_stp; exact if_pos h) rfl hn
theorem bk49_10 {w : am_Wd} {l1 : Nat} {l2 : Int32} {l3 : Int32} : am_run 49 10 [none, some (.ref l1), some (.int l2), some (.int l3)] [] w = (am_gf w l1 10 3).bind fun v => am_run 49 15 [none, some (.ref l1), none, some (.int l3)] (v :: [.int l2]) w := by
  refine (bu (ls'' := [none, some (.ref l1), none, some (.int l3)]) (st' := [.int l2]) bf49_10 bf49_11 rfl rfl).trans ?_
  refine (bu (ls'' := [none, some (.ref l1), none, some (.int l3)]) (st' := [.ref l1, .int l2]) bf49_11 bf49_12 rfl rfl).trans ?_
  exact bh bf49_12 bf49_15 rfl (fun _ _ => am_ge_rf w) rfl
theorem bk49_80 {w : am_Wd} {s0 : UInt64} : am_run 49 80 [none, none, none, none] [.double s0] w = some (.inl (some (.double s0)), w) := by
  exact am_e2 bf49_80 rfl (am_ge_rf w)
theorem bk49_15 {w : am_Wd} {l1 : Nat} {l3 : Int32} {s0 : Nat} {s1 : Int32} : am_run 49 15 [none, some (.ref l1), none, some (.int l3)] [.ref s0, .int s1] w = (am_ri 2 w s0 ((nI 4) * l3)).bind fun v => am_run 49 19 [none, some (.ref l1), none, some (.int l3)] (.int v :: [.int s1]) w := by
  refine (bu (ls'' := [none, some (.ref l1), none, some (.int l3)]) (st' := [.int (nI 4), .ref s0, .int s1]) bf49_15 bf49_16 rfl rfl).trans ?_
  refine (bu (ls'' := [none, some (.ref l1), none, some (.int l3)]) (st' := [.int l3, .int (nI 4), .ref s0, .int s1]) bf49_16 bf49_17 rfl rfl).trans ?_
  refine (bu (ls'' := [none, some (.ref l1), none, some (.int l3)]) (st' := [.int ((nI 4) * l3), .ref s0, .int s1]) bf49_17 bf49_18 rfl rfl).trans ?_
  exact bh bf49_18 bf49_19 rfl (fun _ _ => am_ge_rf w) rfl
theorem bk49_19 {w : am_Wd} {l1 : Nat} {l3 : Int32} {s0 : Int32} {s1 : Int32} : am_run 49 19 [none, some (.ref l1), none, some (.int l3)] [.int s0, .int s1] w = if ¬ s0 = nI 0 then am_run 49 61 [none, some (.ref l1), none, some (.int l3)] [.int s1] w else am_run 49 22 [none, some (.ref l1), none, some (.int l3)] [.int s1] w := by
  exact bifc bf49_19 rfl bf49_61 bf49_22 rfl rfl rfl
theorem bk49_61 {w : am_Wd} {l1 : Nat} {l3 : Int32} {s0 : Int32} : am_run 49 61 [none, some (.ref l1), none, some (.int l3)] [.int s0] w = am_run 49 66 [none, some (.ref l1), none, some (.int l3)] [.int (nI 1), .int s0] w := by
  refine (bu (ls'' := [none, some (.ref l1), none, some (.int l3)]) (st' := [.int (nI 1), .int s0]) bf49_61 bf49_62 rfl rfl).trans ?_
  refine (bu (ls'' := [none, some (.ref l1), none, some (.int l3)]) (st' := [.int (nI 1), .int s0]) bf49_62 bf49_66 rfl rfl).trans ?_
  rfl
theorem bk49_22 {w : am_Wd} {l1 : Nat} {l3 : Int32} {s0 : Int32} : am_run 49 22 [none, some (.ref l1), none, some (.int l3)] [.int s0] w = (am_gf w l1 10 3).bind fun v => am_run 49 26 [none, some (.ref l1), none, some (.int l3)] (v :: [.int s0]) w := by
  refine (bu (ls'' := [none, some (.ref l1), none, some (.int l3)]) (st' := [.ref l1, .int s0]) bf49_22 bf49_23 rfl rfl).trans ?_
  exact bh bf49_23 bf49_26 rfl (fun _ _ => am_ge_rf w) rfl
theorem bk49_66 {w : am_Wd} {l1 : Nat} {l3 : Int32} {s0 : Int32} {s1 : Int32} : am_run 49 66 [none, some (.ref l1), none, some (.int l3)] [.int s0, .int s1] w = am_run 49 4 [none, some (.ref l1), some (.int (s1 + s0)), some (.int (l3 + (nI 1)))] [] w := by
  refine (bu (ls'' := [none, some (.ref l1), none, some (.int l3)]) (st' := [.int (s1 + s0)]) bf49_66 bf49_67 rfl rfl).trans ?_
  refine (bu (ls'' := [none, some (.ref l1), some (.int (s1 + s0)), some (.int l3)]) (st' := []) bf49_67 bf49_68 rfl rfl).trans ?_
  refine (bu (ls'' := [none, some (.ref l1), some (.int (s1 + s0)), some (.int (l3 + (nI 1)))]) (st' := []) bf49_68 bf49_71 rfl rfl).trans ?_
  refine (bu (ls'' := [none, some (.ref l1), some (.int (s1 + s0)), some (.int (l3 + (nI 1)))]) (st' := []) bf49_71 bf49_4 rfl rfl).trans ?_
  rfl
theorem bk49_26 {w : am_Wd} {l1 : Nat} {l3 : Int32} {s0 : Nat} {s1 : Int32} : am_run 49 26 [none, some (.ref l1), none, some (.int l3)] [.ref s0, .int s1] w = (am_ri 2 w s0 (((nI 4) * l3) + (nI 1))).bind fun v => am_run 49 32 [none, some (.ref l1), none, some (.int l3)] (.int v :: [.int s1]) w := by
  refine (bu (ls'' := [none, some (.ref l1), none, some (.int l3)]) (st' := [.int (nI 4), .ref s0, .int s1]) bf49_26 bf49_27 rfl rfl).trans ?_
  refine (bu (ls'' := [none, some (.ref l1), none, some (.int l3)]) (st' := [.int l3, .int (nI 4), .ref s0, .int s1]) bf49_27 bf49_28 rfl rfl).trans ?_
  refine (bu (ls'' := [none, some (.ref l1), none, some (.int l3)]) (st' := [.int ((nI 4) * l3), .ref s0, .int s1]) bf49_28 bf49_29 rfl rfl).trans ?_
  refine (bu (ls'' := [none, some (.ref l1), none, some (.int l3)]) (st' := [.int (nI 1), .int ((nI 4) * l3), .ref s0, .int s1]) bf49_29 bf49_30 rfl rfl).trans ?_
  refine (bu (ls'' := [none, some (.ref l1), none, some (.int l3)]) (st' := [.int (((nI 4) * l3) + (nI 1)), .ref s0, .int s1]) bf49_30 bf49_31 rfl rfl).trans ?_
  exact bh bf49_31 bf49_32 rfl (fun _ _ => am_ge_rf w) rfl
theorem bk49_32 {w : am_Wd} {l1 : Nat} {l3 : Int32} {s0 : Int32} {s1 : Int32} : am_run 49 32 [none, some (.ref l1), none, some (.int l3)] [.int s0, .int s1] w = if ¬ s0 = nI 0 then am_run 49 61 [none, some (.ref l1), none, some (.int l3)] [.int s1] w else am_run 49 35 [none, some (.ref l1), none, some (.int l3)] [.int s1] w := by
  exact bifc bf49_32 rfl bf49_61 bf49_35 rfl rfl rfl
theorem bk49_35 {w : am_Wd} {l1 : Nat} {l3 : Int32} {s0 : Int32} : am_run 49 35 [none, some (.ref l1), none, some (.int l3)] [.int s0] w = (am_gf w l1 10 3).bind fun v => am_run 49 39 [none, some (.ref l1), none, some (.int l3)] (v :: [.int s0]) w := by
  refine (bu (ls'' := [none, some (.ref l1), none, some (.int l3)]) (st' := [.ref l1, .int s0]) bf49_35 bf49_36 rfl rfl).trans ?_
  exact bh bf49_36 bf49_39 rfl (fun _ _ => am_ge_rf w) rfl
theorem bk49_39 {w : am_Wd} {l1 : Nat} {l3 : Int32} {s0 : Nat} {s1 : Int32} : am_run 49 39 [none, some (.ref l1), none, some (.int l3)] [.ref s0, .int s1] w = (am_ri 2 w s0 (((nI 4) * l3) + (nI 2))).bind fun v => am_run 49 45 [none, some (.ref l1), none, some (.int l3)] (.int v :: [.int s1]) w := by
  refine (bu (ls'' := [none, some (.ref l1), none, some (.int l3)]) (st' := [.int (nI 4), .ref s0, .int s1]) bf49_39 bf49_40 rfl rfl).trans ?_
  refine (bu (ls'' := [none, some (.ref l1), none, some (.int l3)]) (st' := [.int l3, .int (nI 4), .ref s0, .int s1]) bf49_40 bf49_41 rfl rfl).trans ?_
  refine (bu (ls'' := [none, some (.ref l1), none, some (.int l3)]) (st' := [.int ((nI 4) * l3), .ref s0, .int s1]) bf49_41 bf49_42 rfl rfl).trans ?_
  refine (bu (ls'' := [none, some (.ref l1), none, some (.int l3)]) (st' := [.int (nI 2), .int ((nI 4) * l3), .ref s0, .int s1]) bf49_42 bf49_43 rfl rfl).trans ?_
  refine (bu (ls'' := [none, some (.ref l1), none, some (.int l3)]) (st' := [.int (((nI 4) * l3) + (nI 2)), .ref s0, .int s1]) bf49_43 bf49_44 rfl rfl).trans ?_
  exact bh bf49_44 bf49_45 rfl (fun _ _ => am_ge_rf w) rfl
theorem bk49_45 {w : am_Wd} {l1 : Nat} {l3 : Int32} {s0 : Int32} {s1 : Int32} : am_run 49 45 [none, some (.ref l1), none, some (.int l3)] [.int s0, .int s1] w = if ¬ s0 = nI 0 then am_run 49 61 [none, some (.ref l1), none, some (.int l3)] [.int s1] w else am_run 49 48 [none, some (.ref l1), none, some (.int l3)] [.int s1] w := by
  exact bifc bf49_45 rfl bf49_61 bf49_48 rfl rfl rfl
theorem bk49_48 {w : am_Wd} {l1 : Nat} {l3 : Int32} {s0 : Int32} : am_run 49 48 [none, some (.ref l1), none, some (.int l3)] [.int s0] w = (am_gf w l1 10 3).bind fun v => am_run 49 52 [none, some (.ref l1), none, some (.int l3)] (v :: [.int s0]) w := by
  refine (bu (ls'' := [none, some (.ref l1), none, some (.int l3)]) (st' := [.ref l1, .int s0]) bf49_48 bf49_49 rfl rfl).trans ?_
  exact bh bf49_49 bf49_52 rfl (fun _ _ => am_ge_rf w) rfl
theorem bk49_52 {w : am_Wd} {l1 : Nat} {l3 : Int32} {s0 : Nat} {s1 : Int32} : am_run 49 52 [none, some (.ref l1), none, some (.int l3)] [.ref s0, .int s1] w = (am_ri 2 w s0 (((nI 4) * l3) + (nI 3))).bind fun v => am_run 49 58 [none, some (.ref l1), none, some (.int l3)] (.int v :: [.int s1]) w := by
  refine (bu (ls'' := [none, some (.ref l1), none, some (.int l3)]) (st' := [.int (nI 4), .ref s0, .int s1]) bf49_52 bf49_53 rfl rfl).trans ?_
  refine (bu (ls'' := [none, some (.ref l1), none, some (.int l3)]) (st' := [.int l3, .int (nI 4), .ref s0, .int s1]) bf49_53 bf49_54 rfl rfl).trans ?_
  refine (bu (ls'' := [none, some (.ref l1), none, some (.int l3)]) (st' := [.int ((nI 4) * l3), .ref s0, .int s1]) bf49_54 bf49_55 rfl rfl).trans ?_
  refine (bu (ls'' := [none, some (.ref l1), none, some (.int l3)]) (st' := [.int (nI 3), .int ((nI 4) * l3), .ref s0, .int s1]) bf49_55 bf49_56 rfl rfl).trans ?_
  refine (bu (ls'' := [none, some (.ref l1), none, some (.int l3)]) (st' := [.int (((nI 4) * l3) + (nI 3)), .ref s0, .int s1]) bf49_56 bf49_57 rfl rfl).trans ?_
  exact bh bf49_57 bf49_58 rfl (fun _ _ => am_ge_rf w) rfl
theorem bk49_58 {w : am_Wd} {l1 : Nat} {l3 : Int32} {s0 : Int32} {s1 : Int32} : am_run 49 58 [none, some (.ref l1), none, some (.int l3)] [.int s0, .int s1] w = if s0 = nI 0 then am_run 49 65 [none, some (.ref l1), none, some (.int l3)] [.int s1] w else am_run 49 61 [none, some (.ref l1), none, some (.int l3)] [.int s1] w := by
  exact bifc bf49_58 rfl bf49_65 bf49_61 rfl rfl rfl
theorem bk49_65 {w : am_Wd} {l1 : Nat} {l3 : Int32} {s0 : Int32} : am_run 49 65 [none, some (.ref l1), none, some (.int l3)] [.int s0] w = am_run 49 66 [none, some (.ref l1), none, some (.int l3)] [.int (nI 0), .int s0] w := by
  refine (bu (ls'' := [none, some (.ref l1), none, some (.int l3)]) (st' := [.int (nI 0), .int s0]) bf49_65 bf49_66 rfl rfl).trans ?_
  rfl
theorem bf50_0 : am_fetch (am_mth 50) 0 = some (.lload_n 0, 1, [], [1]) := by decide +kernel
theorem bf50_1 : am_fetch (am_mth 50) 1 = some (.lload_n 0, 1, [], [1]) := by decide +kernel
theorem bf50_2 : am_fetch (am_mth 50) 2 = some (.iconst 1, 1, [], [0, 1]) := by decide +kernel
theorem bf50_3 : am_fetch (am_mth 50) 3 = some (.lushr, 1, [], [0, 1]) := by decide +kernel
theorem bf50_4 : am_fetch (am_mth 50) 4 = some (.ldc2_w 314, 3, [0, 6148914691236517205, 158], [0, 1]) := by decide +kernel
theorem bf50_7 : am_fetch (am_mth 50) 7 = some (.land, 1, [], [0, 1]) := by decide +kernel
theorem bf50_8 : am_fetch (am_mth 50) 8 = some (.lsub, 1, [], [0, 1]) := by decide +kernel
theorem bf50_9 : am_fetch (am_mth 50) 9 = some (.lstore_n 0, 1, [], [0, 1]) := by decide +kernel
theorem bf50_10 : am_fetch (am_mth 50) 10 = some (.lload_n 0, 1, [], [1]) := by decide +kernel
theorem bf50_11 : am_fetch (am_mth 50) 11 = some (.ldc2_w 316, 3, [0, 3689348814741910323, 159], [1]) := by decide +kernel
theorem bf50_14 : am_fetch (am_mth 50) 14 = some (.land, 1, [], [1]) := by decide +kernel
theorem bf50_15 : am_fetch (am_mth 50) 15 = some (.lload_n 0, 1, [], [1]) := by decide +kernel
theorem bf50_16 : am_fetch (am_mth 50) 16 = some (.iconst 2, 1, [], [0, 1]) := by decide +kernel
theorem bf50_17 : am_fetch (am_mth 50) 17 = some (.lushr, 1, [], [0, 1]) := by decide +kernel
theorem bf50_18 : am_fetch (am_mth 50) 18 = some (.ldc2_w 316, 3, [0, 3689348814741910323, 159], [0, 1]) := by decide +kernel
theorem bf50_21 : am_fetch (am_mth 50) 21 = some (.land, 1, [], [0, 1]) := by decide +kernel
theorem bf50_22 : am_fetch (am_mth 50) 22 = some (.ladd, 1, [], [0, 1]) := by decide +kernel
theorem bf50_23 : am_fetch (am_mth 50) 23 = some (.lstore_n 0, 1, [], [0, 1]) := by decide +kernel
theorem bf50_24 : am_fetch (am_mth 50) 24 = some (.lload_n 0, 1, [], [1]) := by decide +kernel
theorem bf50_25 : am_fetch (am_mth 50) 25 = some (.lload_n 0, 1, [], [1]) := by decide +kernel
theorem bf50_26 : am_fetch (am_mth 50) 26 = some (.iconst 4, 1, [], [0, 1]) := by decide +kernel
theorem bf50_27 : am_fetch (am_mth 50) 27 = some (.lushr, 1, [], [0, 1]) := by decide +kernel
theorem bf50_28 : am_fetch (am_mth 50) 28 = some (.ladd, 1, [], [0, 1]) := by decide +kernel
theorem bf50_29 : am_fetch (am_mth 50) 29 = some (.ldc2_w 318, 3, [0, 1085102592571150095, 160], [0, 1]) := by decide +kernel
theorem bf50_32 : am_fetch (am_mth 50) 32 = some (.land, 1, [], [0, 1]) := by decide +kernel
theorem bf50_33 : am_fetch (am_mth 50) 33 = some (.lstore_n 0, 1, [], [0, 1]) := by decide +kernel
theorem bf50_34 : am_fetch (am_mth 50) 34 = some (.lload_n 0, 1, [], [1]) := by decide +kernel
theorem bf50_35 : am_fetch (am_mth 50) 35 = some (.lload_n 0, 1, [], [1]) := by decide +kernel
theorem bf50_36 : am_fetch (am_mth 50) 36 = some (.bipush 8, 2, [], [0, 1]) := by decide +kernel
theorem bf50_38 : am_fetch (am_mth 50) 38 = some (.lushr, 1, [], [0, 1]) := by decide +kernel
theorem bf50_39 : am_fetch (am_mth 50) 39 = some (.ladd, 1, [], [0, 1]) := by decide +kernel
theorem bf50_40 : am_fetch (am_mth 50) 40 = some (.lstore_n 0, 1, [], [0, 1]) := by decide +kernel
theorem bf50_41 : am_fetch (am_mth 50) 41 = some (.lload_n 0, 1, [], [1]) := by decide +kernel
theorem bf50_42 : am_fetch (am_mth 50) 42 = some (.lload_n 0, 1, [], [1]) := by decide +kernel
theorem bf50_43 : am_fetch (am_mth 50) 43 = some (.bipush 16, 2, [], [0, 1]) := by decide +kernel
theorem bf50_45 : am_fetch (am_mth 50) 45 = some (.lushr, 1, [], [0, 1]) := by decide +kernel
theorem bf50_46 : am_fetch (am_mth 50) 46 = some (.ladd, 1, [], [0, 1]) := by decide +kernel
theorem bf50_47 : am_fetch (am_mth 50) 47 = some (.lstore_n 0, 1, [], [0, 1]) := by decide +kernel
theorem bf50_48 : am_fetch (am_mth 50) 48 = some (.lload_n 0, 1, [], [1]) := by decide +kernel
theorem bf50_49 : am_fetch (am_mth 50) 49 = some (.lload_n 0, 1, [], [1]) := by decide +kernel
theorem bf50_50 : am_fetch (am_mth 50) 50 = some (.bipush 32, 2, [], [0, 1]) := by decide +kernel
theorem bf50_52 : am_fetch (am_mth 50) 52 = some (.lushr, 1, [], [0, 1]) := by decide +kernel
theorem bf50_53 : am_fetch (am_mth 50) 53 = some (.ladd, 1, [], [0, 1]) := by decide +kernel
theorem bf50_54 : am_fetch (am_mth 50) 54 = some (.lstore_n 0, 1, [], [0, 1]) := by decide +kernel
theorem bf50_55 : am_fetch (am_mth 50) 55 = some (.lload_n 0, 1, [], [1]) := by decide +kernel
theorem bf50_56 : am_fetch (am_mth 50) 56 = some (.l2i, 1, [], [0, 1]) := by decide +kernel
theorem bf50_57 : am_fetch (am_mth 50) 57 = some (.bipush 127, 2, [], [0, 1]) := by decide +kernel
theorem bf50_59 : am_fetch (am_mth 50) 59 = some (.iand, 1, [], [0, 1]) := by decide +kernel
theorem bf50_60 : am_fetch (am_mth 50) 60 = some (.ireturn, 1, [0], [0, 1]) := by decide +kernel
theorem bk50_0 {w : am_Wd} {l0 : Int64} : am_run 50 0 [some (.long l0), none] [] w = am_run 50 10 [some (.long (l0 - ((bj_lushr l0 (nI 1)) &&& (lN 6148914691236517205)))), none] [] w := by
  refine (bu (ls'' := [some (.long l0), none]) (st' := [.long l0]) bf50_0 bf50_1 rfl rfl).trans ?_
  refine (bu (ls'' := [none, none]) (st' := [.long l0, .long l0]) bf50_1 bf50_2 rfl rfl).trans ?_
  refine (bu (ls'' := [none, none]) (st' := [.int (nI 1), .long l0, .long l0]) bf50_2 bf50_3 rfl rfl).trans ?_
  refine (bu (ls'' := [none, none]) (st' := [.long (bj_lushr l0 (nI 1)), .long l0]) bf50_3 bf50_4 rfl rfl).trans ?_
  refine (bu (ls'' := [none, none]) (st' := [.long (lN 6148914691236517205), .long (bj_lushr l0 (nI 1)), .long l0]) bf50_4 bf50_7 rfl rfl).trans ?_
  refine (bu (ls'' := [none, none]) (st' := [.long ((bj_lushr l0 (nI 1)) &&& (lN 6148914691236517205)), .long l0]) bf50_7 bf50_8 rfl rfl).trans ?_
  refine (bu (ls'' := [none, none]) (st' := [.long (l0 - ((bj_lushr l0 (nI 1)) &&& (lN 6148914691236517205)))]) bf50_8 bf50_9 rfl rfl).trans ?_
  refine (bu (ls'' := [some (.long (l0 - ((bj_lushr l0 (nI 1)) &&& (lN 6148914691236517205)))), none]) (st' := []) bf50_9 bf50_10 rfl rfl).trans ?_
  rfl
theorem bk50_10 {w : am_Wd} {l0 : Int64} : am_run 50 10 [some (.long l0), none] [] w = am_run 50 24 [some (.long ((l0 &&& (lN 3689348814741910323)) + ((bj_lushr l0 (nI 2)) &&& (lN 3689348814741910323)))), none] [] w := by
  refine (bu (ls'' := [some (.long l0), none]) (st' := [.long l0]) bf50_10 bf50_11 rfl rfl).trans ?_
  refine (bu (ls'' := [some (.long l0), none]) (st' := [.long (lN 3689348814741910323), .long l0]) bf50_11 bf50_14 rfl rfl).trans ?_
  refine (bu (ls'' := [some (.long l0), none]) (st' := [.long (l0 &&& (lN 3689348814741910323))]) bf50_14 bf50_15 rfl rfl).trans ?_
  refine (bu (ls'' := [none, none]) (st' := [.long l0, .long (l0 &&& (lN 3689348814741910323))]) bf50_15 bf50_16 rfl rfl).trans ?_
  refine (bu (ls'' := [none, none]) (st' := [.int (nI 2), .long l0, .long (l0 &&& (lN 3689348814741910323))]) bf50_16 bf50_17 rfl rfl).trans ?_
  refine (bu (ls'' := [none, none]) (st' := [.long (bj_lushr l0 (nI 2)), .long (l0 &&& (lN 3689348814741910323))]) bf50_17 bf50_18 rfl rfl).trans ?_
  refine (bu (ls'' := [none, none]) (st' := [.long (lN 3689348814741910323), .long (bj_lushr l0 (nI 2)), .long (l0 &&& (lN 3689348814741910323))]) bf50_18 bf50_21 rfl rfl).trans ?_
  refine (bu (ls'' := [none, none]) (st' := [.long ((bj_lushr l0 (nI 2)) &&& (lN 3689348814741910323)), .long (l0 &&& (lN 3689348814741910323))]) bf50_21 bf50_22 rfl rfl).trans ?_
  refine (bu (ls'' := [none, none]) (st' := [.long ((l0 &&& (lN 3689348814741910323)) + ((bj_lushr l0 (nI 2)) &&& (lN 3689348814741910323)))]) bf50_22 bf50_23 rfl rfl).trans ?_
  refine (bu (ls'' := [some (.long ((l0 &&& (lN 3689348814741910323)) + ((bj_lushr l0 (nI 2)) &&& (lN 3689348814741910323)))), none]) (st' := []) bf50_23 bf50_24 rfl rfl).trans ?_
  rfl
theorem bk50_24 {w : am_Wd} {l0 : Int64} : am_run 50 24 [some (.long l0), none] [] w = am_run 50 34 [some (.long ((l0 + (bj_lushr l0 (nI 4))) &&& (lN 1085102592571150095))), none] [] w := by
  refine (bu (ls'' := [some (.long l0), none]) (st' := [.long l0]) bf50_24 bf50_25 rfl rfl).trans ?_
  refine (bu (ls'' := [none, none]) (st' := [.long l0, .long l0]) bf50_25 bf50_26 rfl rfl).trans ?_
  refine (bu (ls'' := [none, none]) (st' := [.int (nI 4), .long l0, .long l0]) bf50_26 bf50_27 rfl rfl).trans ?_
  refine (bu (ls'' := [none, none]) (st' := [.long (bj_lushr l0 (nI 4)), .long l0]) bf50_27 bf50_28 rfl rfl).trans ?_
  refine (bu (ls'' := [none, none]) (st' := [.long (l0 + (bj_lushr l0 (nI 4)))]) bf50_28 bf50_29 rfl rfl).trans ?_
  refine (bu (ls'' := [none, none]) (st' := [.long (lN 1085102592571150095), .long (l0 + (bj_lushr l0 (nI 4)))]) bf50_29 bf50_32 rfl rfl).trans ?_
  refine (bu (ls'' := [none, none]) (st' := [.long ((l0 + (bj_lushr l0 (nI 4))) &&& (lN 1085102592571150095))]) bf50_32 bf50_33 rfl rfl).trans ?_
  refine (bu (ls'' := [some (.long ((l0 + (bj_lushr l0 (nI 4))) &&& (lN 1085102592571150095))), none]) (st' := []) bf50_33 bf50_34 rfl rfl).trans ?_
  rfl
theorem bk50_34 {w : am_Wd} {l0 : Int64} : am_run 50 34 [some (.long l0), none] [] w = am_run 50 41 [some (.long (l0 + (bj_lushr l0 (nI 8)))), none] [] w := by
  refine (bu (ls'' := [some (.long l0), none]) (st' := [.long l0]) bf50_34 bf50_35 rfl rfl).trans ?_
  refine (bu (ls'' := [none, none]) (st' := [.long l0, .long l0]) bf50_35 bf50_36 rfl rfl).trans ?_
  refine (bu (ls'' := [none, none]) (st' := [.int (nI 8), .long l0, .long l0]) bf50_36 bf50_38 rfl rfl).trans ?_
  refine (bu (ls'' := [none, none]) (st' := [.long (bj_lushr l0 (nI 8)), .long l0]) bf50_38 bf50_39 rfl rfl).trans ?_
  refine (bu (ls'' := [none, none]) (st' := [.long (l0 + (bj_lushr l0 (nI 8)))]) bf50_39 bf50_40 rfl rfl).trans ?_
  refine (bu (ls'' := [some (.long (l0 + (bj_lushr l0 (nI 8)))), none]) (st' := []) bf50_40 bf50_41 rfl rfl).trans ?_
  rfl
theorem bk50_41 {w : am_Wd} {l0 : Int64} : am_run 50 41 [some (.long l0), none] [] w = am_run 50 48 [some (.long (l0 + (bj_lushr l0 (nI 16)))), none] [] w := by
  refine (bu (ls'' := [some (.long l0), none]) (st' := [.long l0]) bf50_41 bf50_42 rfl rfl).trans ?_
  refine (bu (ls'' := [none, none]) (st' := [.long l0, .long l0]) bf50_42 bf50_43 rfl rfl).trans ?_
  refine (bu (ls'' := [none, none]) (st' := [.int (nI 16), .long l0, .long l0]) bf50_43 bf50_45 rfl rfl).trans ?_
  refine (bu (ls'' := [none, none]) (st' := [.long (bj_lushr l0 (nI 16)), .long l0]) bf50_45 bf50_46 rfl rfl).trans ?_
  refine (bu (ls'' := [none, none]) (st' := [.long (l0 + (bj_lushr l0 (nI 16)))]) bf50_46 bf50_47 rfl rfl).trans ?_
  refine (bu (ls'' := [some (.long (l0 + (bj_lushr l0 (nI 16)))), none]) (st' := []) bf50_47 bf50_48 rfl rfl).trans ?_
  rfl
theorem bk50_48 {w : am_Wd} {l0 : Int64} : am_run 50 48 [some (.long l0), none] [] w = am_run 50 55 [some (.long (l0 + (bj_lushr l0 (nI 32)))), none] [] w := by
  refine (bu (ls'' := [some (.long l0), none]) (st' := [.long l0]) bf50_48 bf50_49 rfl rfl).trans ?_
  refine (bu (ls'' := [none, none]) (st' := [.long l0, .long l0]) bf50_49 bf50_50 rfl rfl).trans ?_
  refine (bu (ls'' := [none, none]) (st' := [.int (nI 32), .long l0, .long l0]) bf50_50 bf50_52 rfl rfl).trans ?_
  refine (bu (ls'' := [none, none]) (st' := [.long (bj_lushr l0 (nI 32)), .long l0]) bf50_52 bf50_53 rfl rfl).trans ?_
  refine (bu (ls'' := [none, none]) (st' := [.long (l0 + (bj_lushr l0 (nI 32)))]) bf50_53 bf50_54 rfl rfl).trans ?_
  refine (bu (ls'' := [some (.long (l0 + (bj_lushr l0 (nI 32)))), none]) (st' := []) bf50_54 bf50_55 rfl rfl).trans ?_
  rfl
theorem bk50_55 {w : am_Wd} {l0 : Int64} : am_run 50 55 [some (.long l0), none] [] w = some (.inl (some (.int ((Int64.toInt32 l0) &&& (nI 127)))), w) := by
  refine (bu (ls'' := [none, none]) (st' := [.long l0]) bf50_55 bf50_56 rfl rfl).trans ?_
  refine (bu (ls'' := [none, none]) (st' := [.int (Int64.toInt32 l0)]) bf50_56 bf50_57 rfl rfl).trans ?_
  refine (bu (ls'' := [none, none]) (st' := [.int (nI 127), .int (Int64.toInt32 l0)]) bf50_57 bf50_59 rfl rfl).trans ?_
  refine (bu (ls'' := [none, none]) (st' := [.int ((Int64.toInt32 l0) &&& (nI 127))]) bf50_59 bf50_60 rfl rfl).trans ?_
  exact am_e2 bf50_60 rfl (am_ge_rf w)
theorem bf51_0 : am_fetch (am_mth 51) 0 = some (.aload_n 0, 1, [], []) := by decide +kernel
theorem bf51_1 : am_fetch (am_mth 51) 1 = some (.getfield 1, 3, [0, 2, 3, 1499], []) := by decide +kernel
theorem bf51_4 : am_fetch (am_mth 51) 4 = some (.getfield 17, 3, [0, 3, 0, 1186, 1187], []) := by decide +kernel
theorem bf51_7 : am_fetch (am_mth 51) 7 = some (.aload_n 0, 1, [], []) := by decide +kernel
theorem bf51_8 : am_fetch (am_mth 51) 8 = some (.getfield 22, 3, [0, 2, 2, 1498], [0]) := by decide +kernel
theorem bf51_11 : am_fetch (am_mth 51) 11 = some (.if_icmp .eq 11, 3, [], [0]) := by decide +kernel
theorem bf51_14 : am_fetch (am_mth 51) 14 = some (.new 41, 3, [], [0]) := by decide +kernel
theorem bf51_17 : am_fetch (am_mth 51) 17 = some (.dup, 1, [], [0]) := by decide +kernel
theorem bf51_18 : am_fetch (am_mth 51) 18 = some (.invokespecial 43, 3, [], [0]) := by decide +kernel
theorem bf51_21 : am_fetch (am_mth 51) 21 = some (.athrow, 1, [], [0]) := by decide +kernel
theorem bf51_22 : am_fetch (am_mth 51) 22 = some (.return_, 1, [], [0]) := by decide +kernel
theorem bk51_0 {w : am_Wd} {l0 : Nat} : am_run 51 0 [some (.ref l0)] [] w = (am_gf w l0 2 3).bind fun v => am_run 51 4 [some (.ref l0)] (v :: []) w := by
  refine (bu (ls'' := [some (.ref l0)]) (st' := [.ref l0]) bf51_0 bf51_1 rfl rfl).trans ?_
  exact bh bf51_1 bf51_4 rfl (fun _ _ => am_ge_rf w) rfl
theorem bk51_4 {w : am_Wd} {l0 : Nat} {s0 : Nat} : am_run 51 4 [some (.ref l0)] [.ref s0] w = (am_gf w s0 3 0).bind fun v => am_run 51 7 [some (.ref l0)] (v :: []) w := by
  exact bh bf51_4 bf51_7 rfl (fun _ _ => am_ge_rf w) rfl
theorem bk51_7 {w : am_Wd} {l0 : Nat} {s0 : Int32} : am_run 51 7 [some (.ref l0)] [.int s0] w = (am_gf w l0 2 2).bind fun v => am_run 51 11 [none] (v :: [.int s0]) w := by
  refine (bu (ls'' := [none]) (st' := [.ref l0, .int s0]) bf51_7 bf51_8 rfl rfl).trans ?_
  exact bh bf51_8 bf51_11 rfl (fun _ _ => am_ge_rf w) rfl
theorem bk51_11 {w : am_Wd} {s0 : Int32} {s1 : Int32} : am_run 51 11 [none] [.int s0, .int s1] w = if s1 = s0 then am_run 51 22 [none] [] w else am_run 51 14 [none] [] w := by
  exact bic bf51_11 rfl bf51_22 bf51_14 rfl rfl rfl
theorem bk51_22 {w : am_Wd}  : am_run 51 22 [none] [] w = some (.inl none, w) := by
  exact am_e2 bf51_22 rfl (am_ge_rf w)
-- bk51_14: list index out of range
theorem bf52_0 : am_fetch (am_mth 52) 0 = some (.aload_n 0, 1, [], []) := by decide +kernel
theorem bf52_1 : am_fetch (am_mth 52) 1 = some (.getfield 25, 3, [0, 2, 0, 1496], []) := by decide +kernel
theorem bf52_4 : am_fetch (am_mth 52) 4 = some (.aload_n 0, 1, [], []) := by decide +kernel
theorem bf52_5 : am_fetch (am_mth 52) 5 = some (.getfield 1, 3, [0, 2, 3, 1499], [0]) := by decide +kernel
theorem bf52_8 : am_fetch (am_mth 52) 8 = some (.getfield 28, 3, [1, 3, 2, 1183], [0]) := by decide +kernel
theorem bf52_11 : am_fetch (am_mth 52) 11 = some (.if_icmp .eq 7, 3, [], [0]) := by decide +kernel
theorem bf52_14 : am_fetch (am_mth 52) 14 = some (.iconst 1, 1, [], [0]) := by decide +kernel
theorem bf52_15 : am_fetch (am_mth 52) 15 = some (.goto 4, 3, [], [0]) := by decide +kernel
theorem bf52_18 : am_fetch (am_mth 52) 18 = some (.iconst 0, 1, [], [0]) := by decide +kernel
theorem bf52_19 : am_fetch (am_mth 52) 19 = some (.ireturn, 1, [1], [0]) := by decide +kernel
theorem bk52_0 {w : am_Wd} {l0 : Nat} : am_run 52 0 [some (.ref l0)] [] w = (am_gf w l0 2 0).bind fun v => am_run 52 4 [some (.ref l0)] (v :: []) w := by
  refine (bu (ls'' := [some (.ref l0)]) (st' := [.ref l0]) bf52_0 bf52_1 rfl rfl).trans ?_
  exact bh bf52_1 bf52_4 rfl (fun _ _ => am_ge_rf w) rfl
theorem bk52_4 {w : am_Wd} {l0 : Nat} {s0 : Int32} : am_run 52 4 [some (.ref l0)] [.int s0] w = (am_gf w l0 2 3).bind fun v => am_run 52 8 [none] (v :: [.int s0]) w := by
  refine (bu (ls'' := [none]) (st' := [.ref l0, .int s0]) bf52_4 bf52_5 rfl rfl).trans ?_
  exact bh bf52_5 bf52_8 rfl (fun _ _ => am_ge_rf w) rfl
theorem bk52_8 {w : am_Wd} {s0 : Nat} {s1 : Int32} : am_run 52 8 [none] [.ref s0, .int s1] w = (am_gf w s0 3 2).bind fun v => am_run 52 11 [none] (v :: [.int s1]) w := by
  exact bh bf52_8 bf52_11 rfl (fun _ _ => am_ge_rf w) rfl
theorem bk52_11 {w : am_Wd} {s0 : Int32} {s1 : Int32} : am_run 52 11 [none] [.int s0, .int s1] w = if s1 = s0 then am_run 52 18 [none] [] w else am_run 52 14 [none] [] w := by
  exact bic bf52_11 rfl bf52_18 bf52_14 rfl rfl rfl
theorem bk52_18 {w : am_Wd}  : am_run 52 18 [none] [] w = am_run 52 19 [none] [.int (nI 0)] w := by
  refine (bu (ls'' := [none]) (st' := [.int (nI 0)]) bf52_18 bf52_19 rfl rfl).trans ?_
  rfl
theorem bk52_14 {w : am_Wd}  : am_run 52 14 [none] [] w = am_run 52 19 [none] [.int (nI 1)] w := by
  refine (bu (ls'' := [none]) (st' := [.int (nI 1)]) bf52_14 bf52_15 rfl rfl).trans ?_
  refine (bu (ls'' := [none]) (st' := [.int (nI 1)]) bf52_15 bf52_19 rfl rfl).trans ?_
  rfl
theorem bk52_19 {w : am_Wd} {s0 : Int32} (hb : am_ok (am_rt 1) (.int s0) = true) : am_run 52 19 [none] [.int s0] w = some (.inl (some (.int s0)), w) := by
  exact am_e2 bf52_19 (by unfold am_stp; exact if_pos ⟨by decide, hb⟩) (am_ge_rf w)
theorem bf53_0 : am_fetch (am_mth 53) 0 = some (.aload_n 0, 1, [], []) := by decide +kernel
theorem bf53_1 : am_fetch (am_mth 53) 1 = some (.aload_n 1, 1, [], []) := by decide +kernel
theorem bf53_2 : am_fetch (am_mth 53) 2 = some (.putfield 1, 3, [0, 2, 3, 1499], [1]) := by decide +kernel
theorem bf53_5 : am_fetch (am_mth 53) 5 = some (.aload_n 0, 1, [], [1]) := by decide +kernel
theorem bf53_6 : am_fetch (am_mth 53) 6 = some (.invokespecial 7, 3, [1, 1495, 85, 86], [1]) := by decide +kernel
theorem bf53_9 : am_fetch (am_mth 53) 9 = some (.aload_n 0, 1, [], [1]) := by decide +kernel
theorem bf53_10 : am_fetch (am_mth 53) 10 = some (.iconst (-1), 1, [], [1]) := by decide +kernel
theorem bf53_11 : am_fetch (am_mth 53) 11 = some (.putfield 13, 3, [0, 2, 1, 1497], [1]) := by decide +kernel
theorem bf53_14 : am_fetch (am_mth 53) 14 = some (.aload_n 0, 1, [], [1]) := by decide +kernel
theorem bf53_15 : am_fetch (am_mth 53) 15 = some (.aload_n 0, 1, [], [1]) := by decide +kernel
theorem bf53_16 : am_fetch (am_mth 53) 16 = some (.getfield 1, 3, [0, 2, 3, 1499], [0, 1]) := by decide +kernel
theorem bf53_19 : am_fetch (am_mth 53) 19 = some (.getfield 17, 3, [0, 3, 0, 1186, 1187], [0, 1]) := by decide +kernel
theorem bf53_22 : am_fetch (am_mth 53) 22 = some (.putfield 22, 3, [0, 2, 2, 1498], [0, 1]) := by decide +kernel
theorem bf53_25 : am_fetch (am_mth 53) 25 = some (.return_, 1, [], [0, 1]) := by decide +kernel
theorem bk53_0 {w : am_Wd} {l0 : Nat} {l1 : Nat} : am_run 53 0 [some (.ref l0), some (.ref l1)] [] w = (am_pf w l0 2 3 (.ref l1)).bind fun w' => am_run 53 5 [some (.ref l0), none] [] w' := by
  refine (bu (ls'' := [some (.ref l0), some (.ref l1)]) (st' := [.ref l0]) bf53_0 bf53_1 rfl rfl).trans ?_
  refine (bu (ls'' := [some (.ref l0), none]) (st' := [.ref l1, .ref l0]) bf53_1 bf53_2 rfl rfl).trans ?_
  exact bh bf53_2 bf53_5 rfl (bge_pf) rfl
theorem bk53_5 {w : am_Wd} {l0 : Nat} : am_run 53 5 [some (.ref l0), none] [] w = (am_pf w l0 2 1 (.int (-1 : Int32))).bind fun w' => am_run 53 14 [some (.ref l0), none] [] w' := by
  refine (bu (ls'' := [some (.ref l0), none]) (st' := [.ref l0]) bf53_5 bf53_6 rfl rfl).trans ?_
  refine (bu (ls'' := [some (.ref l0), none]) (st' := []) bf53_6 bf53_9 rfl rfl).trans ?_
  refine (bu (ls'' := [some (.ref l0), none]) (st' := [.ref l0]) bf53_9 bf53_10 rfl rfl).trans ?_
  refine (bu (ls'' := [some (.ref l0), none]) (st' := [.int (-1 : Int32), .ref l0]) bf53_10 bf53_11 rfl rfl).trans ?_
  exact bh bf53_11 bf53_14 rfl (bge_pf) rfl
theorem bk53_14 {w : am_Wd} {l0 : Nat} : am_run 53 14 [some (.ref l0), none] [] w = (am_gf w l0 2 3).bind fun v => am_run 53 19 [none, none] (v :: [.ref l0]) w := by
  refine (bu (ls'' := [some (.ref l0), none]) (st' := [.ref l0]) bf53_14 bf53_15 rfl rfl).trans ?_
  refine (bu (ls'' := [none, none]) (st' := [.ref l0, .ref l0]) bf53_15 bf53_16 rfl rfl).trans ?_
  exact bh bf53_16 bf53_19 rfl (fun _ _ => am_ge_rf w) rfl
theorem bk53_19 {w : am_Wd} {s0 : Nat} {s1 : Nat} : am_run 53 19 [none, none] [.ref s0, .ref s1] w = (am_gf w s0 3 0).bind fun v => am_run 53 22 [none, none] (v :: [.ref s1]) w := by
  exact bh bf53_19 bf53_22 rfl (fun _ _ => am_ge_rf w) rfl
theorem bk53_22 {w : am_Wd} {s0 : Int32} {s1 : Nat} : am_run 53 22 [none, none] [.int s0, .ref s1] w = (am_pf w s1 2 2 (.int s0)).bind fun w' => am_run 53 25 [none, none] [] w' := by
  exact bh bf53_22 bf53_25 rfl (bge_pf) rfl
theorem bk53_25 {w : am_Wd}  : am_run 53 25 [none, none] [] w = some (.inl none, w) := by
  exact am_e2 bf53_25 rfl (am_ge_rf w)
theorem bf54_0 : am_fetch (am_mth 54) 0 = some (.aload_n 0, 1, [], []) := by decide +kernel
theorem bf54_1 : am_fetch (am_mth 54) 1 = some (.getfield 9, 3, [0, 3, 1, 1181], [0]) := by decide +kernel
theorem bf54_4 : am_fetch (am_mth 54) 4 = some (.iload_n 1, 1, [], [0]) := by decide +kernel
theorem bf54_5 : am_fetch (am_mth 54) 5 = some (.aaload, 1, [], [0, 1]) := by decide +kernel
theorem bf54_6 : am_fetch (am_mth 54) 6 = some (.areturn, 1, [], [0, 1]) := by decide +kernel
theorem bk54_0 {w : am_Wd} {l0 : Nat} {l1 : Int32} : am_run 54 0 [some (.ref l0), some (.int l1)] [] w = (am_gf w l0 3 1).bind fun v => am_run 54 4 [none, some (.int l1)] (v :: []) w := by
  refine (bu (ls'' := [none, some (.int l1)]) (st' := [.ref l0]) bf54_0 bf54_1 rfl rfl).trans ?_
  exact bh bf54_1 bf54_4 rfl (fun _ _ => am_ge_rf w) rfl
theorem bk54_4 {w : am_Wd} {l1 : Int32} {s0 : Nat} : am_run 54 4 [none, some (.int l1)] [.ref s0] w = (am_rq w s0 l1).bind fun v => am_run 54 6 [none, none] (v :: []) w := by
  refine (bu (ls'' := [none, none]) (st' := [.int l1, .ref s0]) bf54_4 bf54_5 rfl rfl).trans ?_
  exact bh bf54_5 bf54_6 rfl (fun _ _ => am_ge_rf w) rfl
theorem bk54_6 {w : am_Wd} {s0 : Nat} : am_run 54 6 [none, none] [.ref s0] w = some (.inl (some (.ref s0)), w) := by
  exact am_e2 bf54_6 rfl (am_ge_rf w)
theorem bf55_0 : am_fetch (am_mth 55) 0 = some (.aload_n 0, 1, [], [2, 3]) := by decide +kernel
theorem bf55_1 : am_fetch (am_mth 55) 1 = some (.getfield 9, 3, [0, 3, 1, 1181], [2, 3]) := by decide +kernel
theorem bf55_4 : am_fetch (am_mth 55) 4 = some (.arraylength, 1, [], [2, 3]) := by decide +kernel
theorem bf55_5 : am_fetch (am_mth 55) 5 = some (.istore_n 2, 1, [], [2, 3]) := by decide +kernel
theorem bf55_6 : am_fetch (am_mth 55) 6 = some (.iload_n 2, 1, [], [3]) := by decide +kernel
theorem bf55_7 : am_fetch (am_mth 55) 7 = some (.ifCond .gt 13, 3, [], [3]) := by decide +kernel
theorem bf55_10 : am_fetch (am_mth 55) 10 = some (.aload_n 0, 1, [], [3]) := by decide +kernel
theorem bf55_11 : am_fetch (am_mth 55) 11 = some (.getfield 9, 3, [0, 3, 1, 1181], [3]) := by decide +kernel
theorem bf55_14 : am_fetch (am_mth 55) 14 = some (.getstatic 39, 3, [1, 1, 1179], [3]) := by decide +kernel
theorem bf55_17 : am_fetch (am_mth 55) 17 = some (.if_acmp .eq 28, 3, [], [3]) := by decide +kernel
theorem bf55_20 : am_fetch (am_mth 55) 20 = some (.iload_n 2, 1, [], [3]) := by decide +kernel
theorem bf55_21 : am_fetch (am_mth 55) 21 = some (.iload_n 1, 1, [], [3]) := by decide +kernel
theorem bf55_22 : am_fetch (am_mth 55) 22 = some (.iload_n 2, 1, [], [1, 3]) := by decide +kernel
theorem bf55_23 : am_fetch (am_mth 55) 23 = some (.isub, 1, [], [1, 3]) := by decide +kernel
theorem bf55_24 : am_fetch (am_mth 55) 24 = some (.iload_n 2, 1, [], [1, 3]) := by decide +kernel
theorem bf55_25 : am_fetch (am_mth 55) 25 = some (.iconst 1, 1, [], [1, 2, 3]) := by decide +kernel
theorem bf55_26 : am_fetch (am_mth 55) 26 = some (.ishr, 1, [], [1, 2, 3]) := by decide +kernel
theorem bf55_27 : am_fetch (am_mth 55) 27 = some (.invokestatic 73, 3, [], [1, 2, 3]) := by decide +kernel
theorem bf55_30 : am_fetch (am_mth 55) 30 = some (.istore_n 3, 1, [], [1, 2, 3]) := by decide +kernel
theorem bf55_31 : am_fetch (am_mth 55) 31 = some (.aload_n 0, 1, [], [1, 2]) := by decide +kernel
theorem bf55_32 : am_fetch (am_mth 55) 32 = some (.aload_n 0, 1, [], [1, 2]) := by decide +kernel
theorem bf55_33 : am_fetch (am_mth 55) 33 = some (.getfield 9, 3, [0, 3, 1, 1181], [0, 1, 2]) := by decide +kernel
theorem bf55_36 : am_fetch (am_mth 55) 36 = some (.iload_n 3, 1, [], [0, 1, 2]) := by decide +kernel
theorem bf55_37 : am_fetch (am_mth 55) 37 = some (.invokestatic 66, 3, [], [0, 1, 2, 3]) := by decide +kernel
theorem bf55_40 : am_fetch (am_mth 55) 40 = some (.dup_x1, 1, [], [0, 1, 2, 3]) := by decide +kernel
theorem bf55_41 : am_fetch (am_mth 55) 41 = some (.putfield 9, 3, [0, 3, 1, 1181], [0, 1, 2, 3]) := by decide +kernel
theorem bf55_44 : am_fetch (am_mth 55) 44 = some (.areturn, 1, [], [0, 1, 2, 3]) := by decide +kernel
theorem bf55_45 : am_fetch (am_mth 55) 45 = some (.aload_n 0, 1, [], [2, 3]) := by decide +kernel
theorem bf55_46 : am_fetch (am_mth 55) 46 = some (.bipush 10, 2, [], [0, 2, 3]) := by decide +kernel
theorem bf55_48 : am_fetch (am_mth 55) 48 = some (.iload_n 1, 1, [], [0, 2, 3]) := by decide +kernel
theorem bf55_49 : am_fetch (am_mth 55) 49 = some (.invokestatic 79, 3, [1, 1381, 446, 59, 447], [0, 1, 2, 3]) := by decide +kernel
theorem bf55_52 : am_fetch (am_mth 55) 52 = some (.anewarray 7, 3, [5, 1382, 1379], [0, 1, 2, 3]) := by decide +kernel
theorem bf55_55 : am_fetch (am_mth 55) 55 = some (.dup_x1, 1, [], [0, 1, 2, 3]) := by decide +kernel
theorem bf55_56 : am_fetch (am_mth 55) 56 = some (.putfield 9, 3, [0, 3, 1, 1181], [0, 1, 2, 3]) := by decide +kernel
theorem bf55_59 : am_fetch (am_mth 55) 59 = some (.areturn, 1, [], [0, 1, 2, 3]) := by decide +kernel
theorem bk55_0 {w : am_Wd} {l0 : Nat} {l1 : Int32} : am_run 55 0 [some (.ref l0), some (.int l1), none, none] [] w = (am_gf w l0 3 1).bind fun v => am_run 55 4 [some (.ref l0), some (.int l1), none, none] (v :: []) w := by
  refine (bu (ls'' := [some (.ref l0), some (.int l1), none, none]) (st' := [.ref l0]) bf55_0 bf55_1 rfl rfl).trans ?_
  exact bh bf55_1 bf55_4 rfl (fun _ _ => am_ge_rf w) rfl
theorem bk55_4 {w : am_Wd} {l0 : Nat} {l1 : Int32} {s0 : Nat} : am_run 55 4 [some (.ref l0), some (.int l1), none, none] [.ref s0] w = (am_len w s0).bind fun v => am_run 55 5 [some (.ref l0), some (.int l1), none, none] (.int (nI v) :: []) w := by
  exact bh bf55_4 bf55_5 rfl (fun _ _ => am_ge_rf w) rfl
theorem bk55_5 {w : am_Wd} {l0 : Nat} {l1 : Int32} {s0 : Int32} : am_run 55 5 [some (.ref l0), some (.int l1), none, none] [.int s0] w = if nI 0 < s0 then am_run 55 20 [some (.ref l0), some (.int l1), some (.int s0), none] [] w else am_run 55 10 [some (.ref l0), some (.int l1), some (.int s0), none] [] w := by
  refine (bu (ls'' := [some (.ref l0), some (.int l1), some (.int s0), none]) (st' := []) bf55_5 bf55_6 rfl rfl).trans ?_
  refine (bu (ls'' := [some (.ref l0), some (.int l1), some (.int s0), none]) (st' := [.int s0]) bf55_6 bf55_7 rfl rfl).trans ?_
  exact bifc bf55_7 rfl bf55_20 bf55_10 rfl rfl rfl
-- bk55_20: list index out of range
theorem bk55_10 {w : am_Wd} {l0 : Nat} {l1 : Int32} {l2 : Int32} : am_run 55 10 [some (.ref l0), some (.int l1), some (.int l2), none] [] w = (am_gf w l0 3 1).bind fun v => am_run 55 14 [some (.ref l0), some (.int l1), some (.int l2), none] (v :: []) w := by
  refine (bu (ls'' := [some (.ref l0), some (.int l1), some (.int l2), none]) (st' := [.ref l0]) bf55_10 bf55_11 rfl rfl).trans ?_
  exact bh bf55_11 bf55_14 rfl (fun _ _ => am_ge_rf w) rfl
theorem bk55_14 {w : am_Wd} {l0 : Nat} {l1 : Int32} {l2 : Int32} {s0 : Nat} {sg : Nat} (hg : w.2.2.2 1 = some sg) : am_run 55 14 [some (.ref l0), some (.int l1), some (.int l2), none] [.ref s0] w = am_run 55 17 [some (.ref l0), some (.int l1), some (.int l2), none] (.ref sg :: [.ref s0]) w := by
  exact bu (ls'' := [some (.ref l0), some (.int l1), some (.int l2), none]) (st' := .ref sg :: [.ref s0]) bf55_14 bf55_17 (by show some _ = _; rw [hg]; rfl) rfl
theorem bk55_17 {w : am_Wd} {l0 : Nat} {l1 : Int32} {l2 : Int32} {s0 : Nat} {s1 : Nat} : am_run 55 17 [some (.ref l0), some (.int l1), some (.int l2), none] [.ref s0, .ref s1] w = if s1 = s0 then am_run 55 45 [some (.ref l0), some (.int l1), none, none] [] w else am_run 55 20 [some (.ref l0), some (.int l1), some (.int l2), none] [] w := by
  exact bia bf55_17 rfl bf55_45 bf55_20 rfl rfl rfl
theorem bk55_45 {w : am_Wd} {l0 : Nat} {l1 : Int32} : am_run 55 45 [some (.ref l0), some (.int l1), none, none] [] w = (am_na w 5 (bj_max (nI 10) l1)).bind fun w' => am_run 55 55 [none, none, none, none] (.ref w.2.1 :: [.ref l0]) w' := by
  refine (bu (ls'' := [none, some (.int l1), none, none]) (st' := [.ref l0]) bf55_45 bf55_46 rfl rfl).trans ?_
  refine (bu (ls'' := [none, some (.int l1), none, none]) (st' := [.int (nI 10), .ref l0]) bf55_46 bf55_48 rfl rfl).trans ?_
  refine (bu (ls'' := [none, none, none, none]) (st' := [.int l1, .int (nI 10), .ref l0]) bf55_48 bf55_49 rfl rfl).trans ?_
  refine (bu (ls'' := [none, none, none, none]) (st' := [.int (bj_max (nI 10) l1), .ref l0]) bf55_49 bf55_52 rfl rfl).trans ?_
  exact bh bf55_52 bf55_55 rfl (bge_na) rfl
theorem bk55_55 {w : am_Wd} {s0 : Nat} {s1 : Nat} : am_run 55 55 [none, none, none, none] [.ref s0, .ref s1] w = (am_pf w s1 3 1 (.ref s0)).bind fun w' => am_run 55 59 [none, none, none, none] [.ref s0] w' := by
  refine (bu (ls'' := [none, none, none, none]) (st' := [.ref s0, .ref s1, .ref s0]) bf55_55 bf55_56 rfl rfl).trans ?_
  exact bh bf55_56 bf55_59 rfl (bge_pf) rfl
theorem bk55_59 {w : am_Wd} {s0 : Nat} : am_run 55 59 [none, none, none, none] [.ref s0] w = some (.inl (some (.ref s0)), w) := by
  exact am_e2 bf55_59 rfl (am_ge_rf w)
theorem bf56_0 : am_fetch (am_mth 56) 0 = some (.aload_n 0, 1, [], []) := by decide +kernel
theorem bf56_1 : am_fetch (am_mth 56) 1 = some (.getfield 48, 3, [0, 3, 2, 1184], [0]) := by decide +kernel
theorem bf56_4 : am_fetch (am_mth 56) 4 = some (.ireturn, 1, [0], [0]) := by decide +kernel
theorem bk56_0 {w : am_Wd} {l0 : Nat} : am_run 56 0 [some (.ref l0)] [] w = (am_gf w l0 3 2).bind fun v => am_run 56 4 [none] (v :: []) w := by
  refine (bu (ls'' := [none]) (st' := [.ref l0]) bf56_0 bf56_1 rfl rfl).trans ?_
  exact bh bf56_1 bf56_4 rfl (fun _ _ => am_ge_rf w) rfl
theorem bk56_4 {w : am_Wd} {s0 : Int32} : am_run 56 4 [none] [.int s0] w = some (.inl (some (.int s0)), w) := by
  exact am_e2 bf56_4 rfl (am_ge_rf w)
theorem bf57_0 : am_fetch (am_mth 57) 0 = some (.aload_n 0, 1, [], []) := by decide +kernel
theorem bf57_1 : am_fetch (am_mth 57) 1 = some (.invokespecial 1, 3, [1, 1178, 85, 86], [0]) := by decide +kernel
theorem bf57_4 : am_fetch (am_mth 57) 4 = some (.return_, 1, [], [0]) := by decide +kernel
theorem bk57_0 {w : am_Wd} {l0 : Nat} : am_run 57 0 [some (.ref l0)] [] w = some (.inl none, w) := by
  refine (bu (ls'' := [none]) (st' := [.ref l0]) bf57_0 bf57_1 rfl rfl).trans ?_
  refine (bu (ls'' := [none]) (st' := []) bf57_1 bf57_4 rfl rfl).trans ?_
  exact am_e2 bf57_4 rfl (am_ge_rf w)
theorem bf58_0 : am_fetch (am_mth 58) 0 = some (.iload_n 0, 1, [], []) := by decide +kernel
theorem bf58_1 : am_fetch (am_mth 58) 1 = some (.ifCond .lt 8, 3, [], []) := by decide +kernel
theorem bf58_4 : am_fetch (am_mth 58) 4 = some (.iload_n 0, 1, [], []) := by decide +kernel
theorem bf58_5 : am_fetch (am_mth 58) 5 = some (.iload_n 1, 1, [], []) := by decide +kernel
theorem bf58_6 : am_fetch (am_mth 58) 6 = some (.if_icmp .lt 10, 3, [], []) := by decide +kernel
theorem bf58_9 : am_fetch (am_mth 58) 9 = some (.aload_n 2, 1, [], []) := by decide +kernel
theorem bf58_10 : am_fetch (am_mth 58) 10 = some (.iload_n 0, 1, [], [2]) := by decide +kernel
theorem bf58_11 : am_fetch (am_mth 58) 11 = some (.iload_n 1, 1, [], [0, 2]) := by decide +kernel
theorem bf58_12 : am_fetch (am_mth 58) 12 = some (.invokestatic 95, 3, [], [0, 1, 2]) := by decide +kernel
theorem bf58_15 : am_fetch (am_mth 58) 15 = some (.athrow, 1, [], [0, 1, 2]) := by decide +kernel
theorem bf58_16 : am_fetch (am_mth 58) 16 = some (.iload_n 0, 1, [], [1, 2]) := by decide +kernel
theorem bf58_17 : am_fetch (am_mth 58) 17 = some (.ireturn, 1, [0], [0, 1, 2]) := by decide +kernel
theorem bk58_0 {w : am_Wd} {l0 : Int32} {l1 : Int32} {l2 : Nat} : am_run 58 0 [some (.int l0), some (.int l1), some (.ref l2)] [] w = if l0 < nI 0 then am_run 58 9 [some (.int l0), some (.int l1), some (.ref l2)] [] w else am_run 58 4 [some (.int l0), some (.int l1), some (.ref l2)] [] w := by
  refine (bu (ls'' := [some (.int l0), some (.int l1), some (.ref l2)]) (st' := [.int l0]) bf58_0 bf58_1 rfl rfl).trans ?_
  exact bifc bf58_1 rfl bf58_9 bf58_4 rfl rfl rfl
theorem bk58_0a {w : am_Wd} {l0 : Int32} {l1 : Int32} : am_run 58 0 [some (.int l0), some (.int l1), some (.null)] [] w = if l0 < nI 0 then am_run 58 9 [some (.int l0), some (.int l1), some (.null)] [] w else am_run 58 4 [some (.int l0), some (.int l1), some (.null)] [] w := by
  refine (bu (ls'' := [some (.int l0), some (.int l1), some (.null)]) (st' := [.int l0]) bf58_0 bf58_1 rfl rfl).trans ?_
  exact bifc bf58_1 rfl bf58_9 bf58_4 rfl rfl rfl
-- bk58_9: list index out of range
theorem bk58_4 {w : am_Wd} {l0 : Int32} {l1 : Int32} {l2 : Nat} : am_run 58 4 [some (.int l0), some (.int l1), some (.ref l2)] [] w = if l0 < l1 then am_run 58 16 [some (.int l0), none, none] [] w else am_run 58 9 [some (.int l0), some (.int l1), some (.ref l2)] [] w := by
  refine (bu (ls'' := [some (.int l0), some (.int l1), some (.ref l2)]) (st' := [.int l0]) bf58_4 bf58_5 rfl rfl).trans ?_
  refine (bu (ls'' := [some (.int l0), some (.int l1), some (.ref l2)]) (st' := [.int l1, .int l0]) bf58_5 bf58_6 rfl rfl).trans ?_
  exact bic bf58_6 rfl bf58_16 bf58_9 rfl rfl rfl
-- bk58_9a: list index out of range
theorem bk58_4a {w : am_Wd} {l0 : Int32} {l1 : Int32} : am_run 58 4 [some (.int l0), some (.int l1), some (.null)] [] w = if l0 < l1 then am_run 58 16 [some (.int l0), none, none] [] w else am_run 58 9 [some (.int l0), some (.int l1), some (.null)] [] w := by
  refine (bu (ls'' := [some (.int l0), some (.int l1), some (.null)]) (st' := [.int l0]) bf58_4 bf58_5 rfl rfl).trans ?_
  refine (bu (ls'' := [some (.int l0), some (.int l1), some (.null)]) (st' := [.int l1, .int l0]) bf58_5 bf58_6 rfl rfl).trans ?_
  exact bic bf58_6 rfl bf58_16 bf58_9 rfl rfl rfl
theorem bk58_16 {w : am_Wd} {l0 : Int32} : am_run 58 16 [some (.int l0), none, none] [] w = some (.inl (some (.int l0)), w) := by
  refine (bu (ls'' := [none, none, none]) (st' := [.int l0]) bf58_16 bf58_17 rfl rfl).trans ?_
  exact am_e2 bf58_17 rfl (am_ge_rf w)
theorem bf72_0 : am_fetch (am_mth 72) 0 = some (.iconst 0, 1, [], [1, 2]) := by decide +kernel
theorem bf72_1 : am_fetch (am_mth 72) 1 = some (.istore_n 1, 1, [], [1, 2]) := by decide +kernel
theorem bf72_2 : am_fetch (am_mth 72) 2 = some (.iconst 0, 1, [], [2]) := by decide +kernel
theorem bf72_3 : am_fetch (am_mth 72) 3 = some (.istore_n 2, 1, [], [2]) := by decide +kernel
theorem bf72_4 : am_fetch (am_mth 72) 4 = some (.iload_n 2, 1, [], []) := by decide +kernel
theorem bf72_5 : am_fetch (am_mth 72) 5 = some (.iconst 4, 1, [], []) := by decide +kernel
theorem bf72_6 : am_fetch (am_mth 72) 6 = some (.if_icmp .ge 21, 3, [], []) := by decide +kernel
theorem bf72_9 : am_fetch (am_mth 72) 9 = some (.iload_n 1, 1, [], []) := by decide +kernel
theorem bf72_10 : am_fetch (am_mth 72) 10 = some (.aload_n 0, 1, [], [1]) := by decide +kernel
theorem bf72_11 : am_fetch (am_mth 72) 11 = some (.getfield 9, 3, [0, 4, 0, 596], [1]) := by decide +kernel
theorem bf72_14 : am_fetch (am_mth 72) 14 = some (.iload_n 2, 1, [], [1]) := by decide +kernel
theorem bf72_15 : am_fetch (am_mth 72) 15 = some (.laload, 1, [], [1]) := by decide +kernel
theorem bf72_16 : am_fetch (am_mth 72) 16 = some (.invokestatic 19, 3, [0, 50, 1, 155, 156, 61], [1]) := by decide +kernel
theorem bf72_19 : am_fetch (am_mth 72) 19 = some (.iadd, 1, [], [1]) := by decide +kernel
theorem bf72_20 : am_fetch (am_mth 72) 20 = some (.istore_n 1, 1, [], [1]) := by decide +kernel
theorem bf72_21 : am_fetch (am_mth 72) 21 = some (.iinc 2 1, 3, [], []) := by decide +kernel
theorem bf72_24 : am_fetch (am_mth 72) 24 = some (.goto (-20), 3, [], []) := by decide +kernel
theorem bf72_27 : am_fetch (am_mth 72) 27 = some (.iload_n 1, 1, [], [0, 2]) := by decide +kernel
theorem bf72_28 : am_fetch (am_mth 72) 28 = some (.ireturn, 1, [0], [0, 1, 2]) := by decide +kernel
theorem bk72_0 {w : am_Wd} {l0 : Nat} : am_run 72 0 [some (.ref l0), none, none] [] w = am_run 72 4 [some (.ref l0), some (.int (nI 0)), some (.int (nI 0))] [] w := by
  refine (bu (ls'' := [some (.ref l0), none, none]) (st' := [.int (nI 0)]) bf72_0 bf72_1 rfl rfl).trans ?_
  refine (bu (ls'' := [some (.ref l0), some (.int (nI 0)), none]) (st' := []) bf72_1 bf72_2 rfl rfl).trans ?_
  refine (bu (ls'' := [some (.ref l0), some (.int (nI 0)), none]) (st' := [.int (nI 0)]) bf72_2 bf72_3 rfl rfl).trans ?_
  refine (bu (ls'' := [some (.ref l0), some (.int (nI 0)), some (.int (nI 0))]) (st' := []) bf72_3 bf72_4 rfl rfl).trans ?_
  rfl
theorem bk72_4 {w : am_Wd} {l0 : Nat} {l1 : Int32} {l2 : Int32} : am_run 72 4 [some (.ref l0), some (.int l1), some (.int l2)] [] w = if (nI 4) ≤ l2 then am_run 72 27 [none, some (.int l1), none] [] w else am_run 72 9 [some (.ref l0), some (.int l1), some (.int l2)] [] w := by
  refine (bu (ls'' := [some (.ref l0), some (.int l1), some (.int l2)]) (st' := [.int l2]) bf72_4 bf72_5 rfl rfl).trans ?_
  refine (bu (ls'' := [some (.ref l0), some (.int l1), some (.int l2)]) (st' := [.int (nI 4), .int l2]) bf72_5 bf72_6 rfl rfl).trans ?_
  exact bic bf72_6 rfl bf72_27 bf72_9 rfl rfl rfl
theorem bk72_27 {w : am_Wd} {l1 : Int32} : am_run 72 27 [none, some (.int l1), none] [] w = some (.inl (some (.int l1)), w) := by
  refine (bu (ls'' := [none, none, none]) (st' := [.int l1]) bf72_27 bf72_28 rfl rfl).trans ?_
  exact am_e2 bf72_28 rfl (am_ge_rf w)
theorem bk72_9 {w : am_Wd} {l0 : Nat} {l1 : Int32} {l2 : Int32} : am_run 72 9 [some (.ref l0), some (.int l1), some (.int l2)] [] w = (am_gf w l0 4 0).bind fun v => am_run 72 14 [some (.ref l0), none, some (.int l2)] (v :: [.int l1]) w := by
  refine (bu (ls'' := [some (.ref l0), none, some (.int l2)]) (st' := [.int l1]) bf72_9 bf72_10 rfl rfl).trans ?_
  refine (bu (ls'' := [some (.ref l0), none, some (.int l2)]) (st' := [.ref l0, .int l1]) bf72_10 bf72_11 rfl rfl).trans ?_
  exact bh bf72_11 bf72_14 rfl (fun _ _ => am_ge_rf w) rfl
theorem bk72_14 {w : am_Wd} {l0 : Nat} {l2 : Int32} {s0 : Nat} {s1 : Int32} : am_run 72 14 [some (.ref l0), none, some (.int l2)] [.ref s0, .int s1] w = (am_rl w s0 l2).bind fun v => am_run 72 16 [some (.ref l0), none, some (.int l2)] (.long v :: [.int s1]) w := by
  refine (bu (ls'' := [some (.ref l0), none, some (.int l2)]) (st' := [.int l2, .ref s0, .int s1]) bf72_14 bf72_15 rfl rfl).trans ?_
  exact bh bf72_15 bf72_16 rfl (fun _ _ => am_ge_rf w) rfl
theorem bk72_16 {w : am_Wd} {l0 : Nat} {l2 : Int32} {s0 : Int64} {s1 : Int32} : am_run 72 16 [some (.ref l0), none, some (.int l2)] [.long s0, .int s1] w = (am_x 50 [.long s0] w).bind fun r => bct r fun v w' => am_run 72 19 [some (.ref l0), none, some (.int l2)] (v.toList ++ [.int s1]) w' := by
  exact bkS bf72_16 bf72_19 rfl (by decide +kernel) (Nat.le_of_ble_eq_true rfl) rfl (bhd rfl)
theorem bk72_19 {w : am_Wd} {l0 : Nat} {l2 : Int32} {s0 : Int32} {s1 : Int32} : am_run 72 19 [some (.ref l0), none, some (.int l2)] [.int s0, .int s1] w = am_run 72 4 [some (.ref l0), some (.int (s1 + s0)), some (.int (l2 + (nI 1)))] [] w := by
  refine (bu (ls'' := [some (.ref l0), none, some (.int l2)]) (st' := [.int (s1 + s0)]) bf72_19 bf72_20 rfl rfl).trans ?_
  refine (bu (ls'' := [some (.ref l0), some (.int (s1 + s0)), some (.int l2)]) (st' := []) bf72_20 bf72_21 rfl rfl).trans ?_
  refine (bu (ls'' := [some (.ref l0), some (.int (s1 + s0)), some (.int (l2 + (nI 1)))]) (st' := []) bf72_21 bf72_24 rfl rfl).trans ?_
  refine (bu (ls'' := [some (.ref l0), some (.int (s1 + s0)), some (.int (l2 + (nI 1)))]) (st' := []) bf72_24 bf72_4 rfl rfl).trans ?_
  rfl
theorem bf73_0 : am_fetch (am_mth 73) 0 = some (.aload_n 0, 1, [], []) := by decide +kernel
theorem bf73_1 : am_fetch (am_mth 73) 1 = some (.getfield 9, 3, [0, 4, 0, 596], [0]) := by decide +kernel
theorem bf73_4 : am_fetch (am_mth 73) 4 = some (.iload_n 1, 1, [], [0]) := by decide +kernel
theorem bf73_5 : am_fetch (am_mth 73) 5 = some (.iconst 3, 1, [], [0]) := by decide +kernel
theorem bf73_6 : am_fetch (am_mth 73) 6 = some (.iand, 1, [], [0]) := by decide +kernel
theorem bf73_7 : am_fetch (am_mth 73) 7 = some (.laload, 1, [], [0]) := by decide +kernel
theorem bf73_8 : am_fetch (am_mth 73) 8 = some (.iload_n 1, 1, [], [0]) := by decide +kernel
theorem bf73_9 : am_fetch (am_mth 73) 9 = some (.iconst 4, 1, [], [0, 1]) := by decide +kernel
theorem bf73_10 : am_fetch (am_mth 73) 10 = some (.idiv, 1, [], [0, 1]) := by decide +kernel
theorem bf73_11 : am_fetch (am_mth 73) 11 = some (.invokestatic 25, 3, [0, 11, 2, 385, 178, 57], [0, 1]) := by decide +kernel
theorem bf73_14 : am_fetch (am_mth 73) 14 = some (.ireturn, 1, [1], [0, 1]) := by decide +kernel
theorem bk73_0 {w : am_Wd} {l0 : Nat} {l1 : Int32} : am_run 73 0 [some (.ref l0), some (.int l1)] [] w = (am_gf w l0 4 0).bind fun v => am_run 73 4 [none, some (.int l1)] (v :: []) w := by
  refine (bu (ls'' := [none, some (.int l1)]) (st' := [.ref l0]) bf73_0 bf73_1 rfl rfl).trans ?_
  exact bh bf73_1 bf73_4 rfl (fun _ _ => am_ge_rf w) rfl
theorem bk73_4 {w : am_Wd} {l1 : Int32} {s0 : Nat} : am_run 73 4 [none, some (.int l1)] [.ref s0] w = (am_rl w s0 (l1 &&& (nI 3))).bind fun v => am_run 73 8 [none, some (.int l1)] (.long v :: []) w := by
  refine (bu (ls'' := [none, some (.int l1)]) (st' := [.int l1, .ref s0]) bf73_4 bf73_5 rfl rfl).trans ?_
  refine (bu (ls'' := [none, some (.int l1)]) (st' := [.int (nI 3), .int l1, .ref s0]) bf73_5 bf73_6 rfl rfl).trans ?_
  refine (bu (ls'' := [none, some (.int l1)]) (st' := [.int (l1 &&& (nI 3)), .ref s0]) bf73_6 bf73_7 rfl rfl).trans ?_
  exact bh bf73_7 bf73_8 rfl (fun _ _ => am_ge_rf w) rfl
theorem bk73_8 {w : am_Wd} {l1 : Int32} {s0 : Int64} : am_run 73 8 [none, some (.int l1)] [.long s0] w = (am_x 11 [.long s0, .int (l1 / (nI 4))] w).bind fun r => bct r fun v w' => am_run 73 14 [none, none] (v.toList ++ []) w' := by
  refine (bu (ls'' := [none, none]) (st' := [.int l1, .long s0]) bf73_8 bf73_9 rfl rfl).trans ?_
  refine (bu (ls'' := [none, none]) (st' := [.int (nI 4), .int l1, .long s0]) bf73_9 bf73_10 rfl rfl).trans ?_
  refine (bu (ls'' := [none, none]) (st' := [.int (l1 / (nI 4)), .long s0]) bf73_10 bf73_11 rfl rfl).trans ?_
  exact bkS bf73_11 bf73_14 rfl (by decide +kernel) (Nat.le_of_ble_eq_true rfl) rfl (bhd rfl)
theorem bk73_14 {w : am_Wd} {s0 : Int32} (hb : am_ok (am_rt 1) (.int s0) = true) : am_run 73 14 [none, none] [.int s0] w = some (.inl (some (.int s0)), w) := by
  exact am_e2 bf73_14 (by unfold am_stp; exact if_pos ⟨by decide, hb⟩) (am_ge_rf w)
theorem bf74_0 : am_fetch (am_mth 74) 0 = some (.aload_n 0, 1, [], [4, 5]) := by decide +kernel
theorem bf74_1 : am_fetch (am_mth 74) 1 = some (.getfield 9, 3, [0, 4, 0, 596], [0, 4, 5]) := by decide +kernel
theorem bf74_4 : am_fetch (am_mth 74) 4 = some (.iload_n 1, 1, [], [0, 4, 5]) := by decide +kernel
theorem bf74_5 : am_fetch (am_mth 74) 5 = some (.laload, 1, [], [0, 4, 5]) := by decide +kernel
theorem bf74_6 : am_fetch (am_mth 74) 6 = some (.aload_n 3, 1, [], [0, 4, 5]) := by decide +kernel
theorem bf74_7 : am_fetch (am_mth 74) 7 = some (.iload_n 1, 1, [], [0, 3, 4, 5]) := by decide +kernel
theorem bf74_8 : am_fetch (am_mth 74) 8 = some (.iload_n 2, 1, [], [0, 3, 4, 5]) := by decide +kernel
theorem bf74_9 : am_fetch (am_mth 74) 9 = some (.invokevirtual 33, 3, [0, 21, 2, 7, 438, 439, 440, 64], [0, 3, 4, 5]) := by decide +kernel
theorem bf74_12 : am_fetch (am_mth 74) 12 = some (.land, 1, [], [0, 3, 4, 5]) := by decide +kernel
theorem bf74_13 : am_fetch (am_mth 74) 13 = some (.lstore 4, 2, [], [0, 3, 4, 5]) := by decide +kernel
theorem bf74_15 : am_fetch (am_mth 74) 15 = some (.iload_n 2, 1, [], [0, 3, 5]) := by decide +kernel
theorem bf74_16 : am_fetch (am_mth 74) 16 = some (.ifCond .eq 8, 3, [], [0, 2, 3, 5]) := by decide +kernel
theorem bf74_19 : am_fetch (am_mth 74) 19 = some (.lload 4, 2, [], [0, 1, 2, 3, 5]) := by decide +kernel
theorem bf74_21 : am_fetch (am_mth 74) 21 = some (.goto 12, 3, [], [0, 1, 2, 3, 4, 5]) := by decide +kernel
theorem bf74_24 : am_fetch (am_mth 74) 24 = some (.lload 4, 2, [], [0, 2, 3, 5]) := by decide +kernel
theorem bf74_26 : am_fetch (am_mth 74) 26 = some (.lload 4, 2, [], [0, 2, 3, 5]) := by decide +kernel
theorem bf74_28 : am_fetch (am_mth 74) 28 = some (.iload_n 1, 1, [], [0, 2, 3, 4, 5]) := by decide +kernel
theorem bf74_29 : am_fetch (am_mth 74) 29 = some (.invokestatic 39, 3, [0, 14, 2, 442, 443, 57], [0, 1, 2, 3, 4, 5]) := by decide +kernel
theorem bf74_32 : am_fetch (am_mth 74) 32 = some (.lor, 1, [], [0, 1, 2, 3, 4, 5]) := by decide +kernel
theorem bf74_33 : am_fetch (am_mth 74) 33 = some (.lreturn, 1, [], [0, 1, 2, 3, 4, 5]) := by decide +kernel
theorem bk74_0 {w : am_Wd} {l0 : Nat} {l1 : Int32} {l2 : Int32} {l3 : Nat} : am_run 74 0 [some (.ref l0), some (.int l1), some (.int l2), some (.ref l3), none, none] [] w = (am_gf w l0 4 0).bind fun v => am_run 74 4 [none, some (.int l1), some (.int l2), some (.ref l3), none, none] (v :: []) w := by
  refine (bu (ls'' := [none, some (.int l1), some (.int l2), some (.ref l3), none, none]) (st' := [.ref l0]) bf74_0 bf74_1 rfl rfl).trans ?_
  exact bh bf74_1 bf74_4 rfl (fun _ _ => am_ge_rf w) rfl
theorem bk74_4 {w : am_Wd} {l1 : Int32} {l2 : Int32} {l3 : Nat} {s0 : Nat} : am_run 74 4 [none, some (.int l1), some (.int l2), some (.ref l3), none, none] [.ref s0] w = (am_rl w s0 l1).bind fun v => am_run 74 6 [none, some (.int l1), some (.int l2), some (.ref l3), none, none] (.long v :: []) w := by
  refine (bu (ls'' := [none, some (.int l1), some (.int l2), some (.ref l3), none, none]) (st' := [.int l1, .ref s0]) bf74_4 bf74_5 rfl rfl).trans ?_
  exact bh bf74_5 bf74_6 rfl (fun _ _ => am_ge_rf w) rfl
theorem bk74_6 {w : am_Wd} {l1 : Int32} {l2 : Int32} {l3 : Nat} {s0 : Int64} : am_run 74 6 [none, some (.int l1), some (.int l2), some (.ref l3), none, none] [.long s0] w = (am_kf w l3 7).bind fun _ => (am_x 21 [.ref l3, .int l1, .int l2] w).bind fun r => bct r fun v w' => am_run 74 12 [none, some (.int l1), some (.int l2), none, none, none] (v.toList ++ [.long s0]) w' := by
  refine (bu (ls'' := [none, some (.int l1), some (.int l2), none, none, none]) (st' := [.ref l3, .long s0]) bf74_6 bf74_7 rfl rfl).trans ?_
  refine (bu (ls'' := [none, some (.int l1), some (.int l2), none, none, none]) (st' := [.int l1, .ref l3, .long s0]) bf74_7 bf74_8 rfl rfl).trans ?_
  refine (bu (ls'' := [none, some (.int l1), some (.int l2), none, none, none]) (st' := [.int l2, .int l1, .ref l3, .long s0]) bf74_8 bf74_9 rfl rfl).trans ?_
  exact bkV bf74_9 bf74_12 rfl (by decide +kernel) (Nat.le_of_ble_eq_true rfl) rfl (bhd rfl)
theorem bk74_12 {w : am_Wd} {l1 : Int32} {l2 : Int32} {s0 : Int64} {s1 : Int64} : am_run 74 12 [none, some (.int l1), some (.int l2), none, none, none] [.long s0, .long s1] w = if l2 = nI 0 then am_run 74 24 [none, some (.int l1), none, none, some (.long (s1 &&& s0)), none] [] w else am_run 74 19 [none, none, none, none, some (.long (s1 &&& s0)), none] [] w := by
  refine (bu (ls'' := [none, some (.int l1), some (.int l2), none, none, none]) (st' := [.long (s1 &&& s0)]) bf74_12 bf74_13 rfl rfl).trans ?_
  refine (bu (ls'' := [none, some (.int l1), some (.int l2), none, some (.long (s1 &&& s0)), none]) (st' := []) bf74_13 bf74_15 rfl rfl).trans ?_
  refine (bu (ls'' := [none, some (.int l1), none, none, some (.long (s1 &&& s0)), none]) (st' := [.int l2]) bf74_15 bf74_16 rfl rfl).trans ?_
  exact bifc bf74_16 rfl bf74_24 bf74_19 rfl rfl rfl
theorem bk74_24 {w : am_Wd} {l1 : Int32} {l4 : Int64} : am_run 74 24 [none, some (.int l1), none, none, some (.long l4), none] [] w = (am_x 14 [.long l4, .int l1] w).bind fun r => bct r fun v w' => am_run 74 32 [none, none, none, none, none, none] (v.toList ++ [.long l4]) w' := by
  refine (bu (ls'' := [none, some (.int l1), none, none, some (.long l4), none]) (st' := [.long l4]) bf74_24 bf74_26 rfl rfl).trans ?_
  refine (bu (ls'' := [none, some (.int l1), none, none, none, none]) (st' := [.long l4, .long l4]) bf74_26 bf74_28 rfl rfl).trans ?_
  refine (bu (ls'' := [none, none, none, none, none, none]) (st' := [.int l1, .long l4, .long l4]) bf74_28 bf74_29 rfl rfl).trans ?_
  exact bkS bf74_29 bf74_32 rfl (by decide +kernel) (Nat.le_of_ble_eq_true rfl) rfl (bhd rfl)
theorem bk74_19 {w : am_Wd} {l4 : Int64} : am_run 74 19 [none, none, none, none, some (.long l4), none] [] w = am_run 74 33 [none, none, none, none, none, none] [.long l4] w := by
  refine (bu (ls'' := [none, none, none, none, none, none]) (st' := [.long l4]) bf74_19 bf74_21 rfl rfl).trans ?_
  refine (bu (ls'' := [none, none, none, none, none, none]) (st' := [.long l4]) bf74_21 bf74_33 rfl rfl).trans ?_
  rfl
theorem bk74_32 {w : am_Wd} {s0 : Int64} {s1 : Int64} : am_run 74 32 [none, none, none, none, none, none] [.long s0, .long s1] w = am_run 74 33 [none, none, none, none, none, none] [.long (s1 ||| s0)] w := by
  refine (bu (ls'' := [none, none, none, none, none, none]) (st' := [.long (s1 ||| s0)]) bf74_32 bf74_33 rfl rfl).trans ?_
  rfl
theorem bk74_33 {w : am_Wd} {s0 : Int64} : am_run 74 33 [none, none, none, none, none, none] [.long s0] w = some (.inl (some (.long s0)), w) := by
  exact am_e2 bf74_33 rfl (am_ge_rf w)
theorem bf75_0 : am_fetch (am_mth 75) 0 = some (.aload_n 0, 1, [], [4, 5, 6]) := by decide +kernel
theorem bf75_1 : am_fetch (am_mth 75) 1 = some (.getfield 9, 3, [0, 4, 0, 596], [0, 4, 5, 6]) := by decide +kernel
theorem bf75_4 : am_fetch (am_mth 75) 4 = some (.iload_n 1, 1, [], [0, 4, 5, 6]) := by decide +kernel
theorem bf75_5 : am_fetch (am_mth 75) 5 = some (.laload, 1, [], [0, 4, 5, 6]) := by decide +kernel
theorem bf75_6 : am_fetch (am_mth 75) 6 = some (.lstore 4, 2, [], [0, 4, 5, 6]) := by decide +kernel
theorem bf75_8 : am_fetch (am_mth 75) 8 = some (.iconst 0, 1, [], [0, 5, 6]) := by decide +kernel
theorem bf75_9 : am_fetch (am_mth 75) 9 = some (.istore 6, 2, [], [0, 5, 6]) := by decide +kernel
theorem bf75_11 : am_fetch (am_mth 75) 11 = some (.iload 6, 2, [], [0, 5]) := by decide +kernel
theorem bf75_13 : am_fetch (am_mth 75) 13 = some (.iconst 3, 1, [], [0, 5]) := by decide +kernel
theorem bf75_14 : am_fetch (am_mth 75) 14 = some (.if_icmp .ge 38, 3, [], [0, 5]) := by decide +kernel
theorem bf75_17 : am_fetch (am_mth 75) 17 = some (.lload 4, 2, [], [0, 5]) := by decide +kernel
theorem bf75_19 : am_fetch (am_mth 75) 19 = some (.aload_n 3, 1, [], [0, 4, 5]) := by decide +kernel
theorem bf75_20 : am_fetch (am_mth 75) 20 = some (.iload_n 1, 1, [], [0, 4, 5]) := by decide +kernel
theorem bf75_21 : am_fetch (am_mth 75) 21 = some (.iload 6, 2, [], [0, 4, 5]) := by decide +kernel
theorem bf75_23 : am_fetch (am_mth 75) 23 = some (.invokestatic 43, 3, [0, 15, 2, 456, 457, 57], [0, 4, 5]) := by decide +kernel
theorem bf75_26 : am_fetch (am_mth 75) 26 = some (.iload_n 2, 1, [], [0, 4, 5]) := by decide +kernel
theorem bf75_27 : am_fetch (am_mth 75) 27 = some (.iload 6, 2, [], [0, 4, 5]) := by decide +kernel
theorem bf75_29 : am_fetch (am_mth 75) 29 = some (.iushr, 1, [], [0, 4, 5]) := by decide +kernel
theorem bf75_30 : am_fetch (am_mth 75) 30 = some (.iconst 1, 1, [], [0, 4, 5]) := by decide +kernel
theorem bf75_31 : am_fetch (am_mth 75) 31 = some (.iand, 1, [], [0, 4, 5]) := by decide +kernel
theorem bf75_32 : am_fetch (am_mth 75) 32 = some (.ifCond .eq 7, 3, [], [0, 4, 5]) := by decide +kernel
theorem bf75_35 : am_fetch (am_mth 75) 35 = some (.iconst 1, 1, [], [0, 4, 5]) := by decide +kernel
theorem bf75_36 : am_fetch (am_mth 75) 36 = some (.goto 4, 3, [], [0, 4, 5]) := by decide +kernel
theorem bf75_39 : am_fetch (am_mth 75) 39 = some (.iconst 0, 1, [], [0, 4, 5]) := by decide +kernel
theorem bf75_40 : am_fetch (am_mth 75) 40 = some (.invokevirtual 33, 3, [0, 21, 2, 7, 438, 439, 440, 64], [0, 4, 5]) := by decide +kernel
theorem bf75_43 : am_fetch (am_mth 75) 43 = some (.land, 1, [], [0, 4, 5]) := by decide +kernel
theorem bf75_44 : am_fetch (am_mth 75) 44 = some (.lstore 4, 2, [], [0, 4, 5]) := by decide +kernel
theorem bf75_46 : am_fetch (am_mth 75) 46 = some (.iinc 6 1, 3, [], [0, 5]) := by decide +kernel
theorem bf75_49 : am_fetch (am_mth 75) 49 = some (.goto (-38), 3, [], [0, 5]) := by decide +kernel
theorem bf75_52 : am_fetch (am_mth 75) 52 = some (.lload 4, 2, [], [0, 1, 2, 3, 5, 6]) := by decide +kernel
theorem bf75_54 : am_fetch (am_mth 75) 54 = some (.lreturn, 1, [], [0, 1, 2, 3, 4, 5, 6]) := by decide +kernel
theorem bk75_0 {w : am_Wd} {l0 : Nat} {l1 : Int32} {l2 : Int32} {l3 : Nat} : am_run 75 0 [some (.ref l0), some (.int l1), some (.int l2), some (.ref l3), none, none, none] [] w = (am_gf w l0 4 0).bind fun v => am_run 75 4 [none, some (.int l1), some (.int l2), some (.ref l3), none, none, none] (v :: []) w := by
  refine (bu (ls'' := [none, some (.int l1), some (.int l2), some (.ref l3), none, none, none]) (st' := [.ref l0]) bf75_0 bf75_1 rfl rfl).trans ?_
  exact bh bf75_1 bf75_4 rfl (fun _ _ => am_ge_rf w) rfl
theorem bk75_4 {w : am_Wd} {l1 : Int32} {l2 : Int32} {l3 : Nat} {s0 : Nat} : am_run 75 4 [none, some (.int l1), some (.int l2), some (.ref l3), none, none, none] [.ref s0] w = (am_rl w s0 l1).bind fun v => am_run 75 6 [none, some (.int l1), some (.int l2), some (.ref l3), none, none, none] (.long v :: []) w := by
  refine (bu (ls'' := [none, some (.int l1), some (.int l2), some (.ref l3), none, none, none]) (st' := [.int l1, .ref s0]) bf75_4 bf75_5 rfl rfl).trans ?_
  exact bh bf75_5 bf75_6 rfl (fun _ _ => am_ge_rf w) rfl
theorem bk75_6 {w : am_Wd} {l1 : Int32} {l2 : Int32} {l3 : Nat} {s0 : Int64} : am_run 75 6 [none, some (.int l1), some (.int l2), some (.ref l3), none, none, none] [.long s0] w = am_run 75 11 [none, some (.int l1), some (.int l2), some (.ref l3), some (.long s0), none, some (.int (nI 0))] [] w := by
  refine (bu (ls'' := [none, some (.int l1), some (.int l2), some (.ref l3), some (.long s0), none, none]) (st' := []) bf75_6 bf75_8 rfl rfl).trans ?_
  refine (bu (ls'' := [none, some (.int l1), some (.int l2), some (.ref l3), some (.long s0), none, none]) (st' := [.int (nI 0)]) bf75_8 bf75_9 rfl rfl).trans ?_
  refine (bu (ls'' := [none, some (.int l1), some (.int l2), some (.ref l3), some (.long s0), none, some (.int (nI 0))]) (st' := []) bf75_9 bf75_11 rfl rfl).trans ?_
  rfl
theorem bk75_11 {w : am_Wd} {l1 : Int32} {l2 : Int32} {l3 : Nat} {l4 : Int64} {l6 : Int32} : am_run 75 11 [none, some (.int l1), some (.int l2), some (.ref l3), some (.long l4), none, some (.int l6)] [] w = if (nI 3) ≤ l6 then am_run 75 52 [none, none, none, none, some (.long l4), none, none] [] w else am_run 75 17 [none, some (.int l1), some (.int l2), some (.ref l3), some (.long l4), none, some (.int l6)] [] w := by
  refine (bu (ls'' := [none, some (.int l1), some (.int l2), some (.ref l3), some (.long l4), none, some (.int l6)]) (st' := [.int l6]) bf75_11 bf75_13 rfl rfl).trans ?_
  refine (bu (ls'' := [none, some (.int l1), some (.int l2), some (.ref l3), some (.long l4), none, some (.int l6)]) (st' := [.int (nI 3), .int l6]) bf75_13 bf75_14 rfl rfl).trans ?_
  exact bic bf75_14 rfl bf75_52 bf75_17 rfl rfl rfl
theorem bk75_52 {w : am_Wd} {l4 : Int64} : am_run 75 52 [none, none, none, none, some (.long l4), none, none] [] w = some (.inl (some (.long l4)), w) := by
  refine (bu (ls'' := [none, none, none, none, none, none, none]) (st' := [.long l4]) bf75_52 bf75_54 rfl rfl).trans ?_
  exact am_e2 bf75_54 rfl (am_ge_rf w)
theorem bk75_17 {w : am_Wd} {l1 : Int32} {l2 : Int32} {l3 : Nat} {l4 : Int64} {l6 : Int32} : am_run 75 17 [none, some (.int l1), some (.int l2), some (.ref l3), some (.long l4), none, some (.int l6)] [] w = (am_x 15 [.int l1, .int l6] w).bind fun r => bct r fun v w' => am_run 75 26 [none, some (.int l1), some (.int l2), some (.ref l3), none, none, some (.int l6)] (v.toList ++ [.ref l3, .long l4]) w' := by
  refine (bu (ls'' := [none, some (.int l1), some (.int l2), some (.ref l3), none, none, some (.int l6)]) (st' := [.long l4]) bf75_17 bf75_19 rfl rfl).trans ?_
  refine (bu (ls'' := [none, some (.int l1), some (.int l2), some (.ref l3), none, none, some (.int l6)]) (st' := [.ref l3, .long l4]) bf75_19 bf75_20 rfl rfl).trans ?_
  refine (bu (ls'' := [none, some (.int l1), some (.int l2), some (.ref l3), none, none, some (.int l6)]) (st' := [.int l1, .ref l3, .long l4]) bf75_20 bf75_21 rfl rfl).trans ?_
  refine (bu (ls'' := [none, some (.int l1), some (.int l2), some (.ref l3), none, none, some (.int l6)]) (st' := [.int l6, .int l1, .ref l3, .long l4]) bf75_21 bf75_23 rfl rfl).trans ?_
  exact bkS bf75_23 bf75_26 rfl (by decide +kernel) (Nat.le_of_ble_eq_true rfl) rfl (bhd rfl)
theorem bk75_26 {w : am_Wd} {l1 : Int32} {l2 : Int32} {l3 : Nat} {l6 : Int32} {s0 : Int32} {s1 : Nat} {s2 : Int64} : am_run 75 26 [none, some (.int l1), some (.int l2), some (.ref l3), none, none, some (.int l6)] [.int s0, .ref s1, .long s2] w = if ((bj_iushr l2 l6) &&& (nI 1)) = nI 0 then am_run 75 39 [none, some (.int l1), some (.int l2), some (.ref l3), none, none, some (.int l6)] [.int s0, .ref s1, .long s2] w else am_run 75 35 [none, some (.int l1), some (.int l2), some (.ref l3), none, none, some (.int l6)] [.int s0, .ref s1, .long s2] w := by
  refine (bu (ls'' := [none, some (.int l1), some (.int l2), some (.ref l3), none, none, some (.int l6)]) (st' := [.int l2, .int s0, .ref s1, .long s2]) bf75_26 bf75_27 rfl rfl).trans ?_
  refine (bu (ls'' := [none, some (.int l1), some (.int l2), some (.ref l3), none, none, some (.int l6)]) (st' := [.int l6, .int l2, .int s0, .ref s1, .long s2]) bf75_27 bf75_29 rfl rfl).trans ?_
  refine (bu (ls'' := [none, some (.int l1), some (.int l2), some (.ref l3), none, none, some (.int l6)]) (st' := [.int (bj_iushr l2 l6), .int s0, .ref s1, .long s2]) bf75_29 bf75_30 rfl rfl).trans ?_
  refine (bu (ls'' := [none, some (.int l1), some (.int l2), some (.ref l3), none, none, some (.int l6)]) (st' := [.int (nI 1), .int (bj_iushr l2 l6), .int s0, .ref s1, .long s2]) bf75_30 bf75_31 rfl rfl).trans ?_
  refine (bu (ls'' := [none, some (.int l1), some (.int l2), some (.ref l3), none, none, some (.int l6)]) (st' := [.int ((bj_iushr l2 l6) &&& (nI 1)), .int s0, .ref s1, .long s2]) bf75_31 bf75_32 rfl rfl).trans ?_
  exact bifc bf75_32 rfl bf75_39 bf75_35 rfl rfl rfl
theorem bk75_39 {w : am_Wd} {l1 : Int32} {l2 : Int32} {l3 : Nat} {l6 : Int32} {s0 : Int32} {s1 : Nat} {s2 : Int64} : am_run 75 39 [none, some (.int l1), some (.int l2), some (.ref l3), none, none, some (.int l6)] [.int s0, .ref s1, .long s2] w = am_run 75 40 [none, some (.int l1), some (.int l2), some (.ref l3), none, none, some (.int l6)] [.int (nI 0), .int s0, .ref s1, .long s2] w := by
  refine (bu (ls'' := [none, some (.int l1), some (.int l2), some (.ref l3), none, none, some (.int l6)]) (st' := [.int (nI 0), .int s0, .ref s1, .long s2]) bf75_39 bf75_40 rfl rfl).trans ?_
  rfl
theorem bk75_35 {w : am_Wd} {l1 : Int32} {l2 : Int32} {l3 : Nat} {l6 : Int32} {s0 : Int32} {s1 : Nat} {s2 : Int64} : am_run 75 35 [none, some (.int l1), some (.int l2), some (.ref l3), none, none, some (.int l6)] [.int s0, .ref s1, .long s2] w = am_run 75 40 [none, some (.int l1), some (.int l2), some (.ref l3), none, none, some (.int l6)] [.int (nI 1), .int s0, .ref s1, .long s2] w := by
  refine (bu (ls'' := [none, some (.int l1), some (.int l2), some (.ref l3), none, none, some (.int l6)]) (st' := [.int (nI 1), .int s0, .ref s1, .long s2]) bf75_35 bf75_36 rfl rfl).trans ?_
  refine (bu (ls'' := [none, some (.int l1), some (.int l2), some (.ref l3), none, none, some (.int l6)]) (st' := [.int (nI 1), .int s0, .ref s1, .long s2]) bf75_36 bf75_40 rfl rfl).trans ?_
  rfl
theorem bk75_40 {w : am_Wd} {l1 : Int32} {l2 : Int32} {l3 : Nat} {l6 : Int32} {s0 : Int32} {s1 : Int32} {s2 : Nat} {s3 : Int64} : am_run 75 40 [none, some (.int l1), some (.int l2), some (.ref l3), none, none, some (.int l6)] [.int s0, .int s1, .ref s2, .long s3] w = (am_kf w s2 7).bind fun _ => (am_x 21 [.ref s2, .int s1, .int s0] w).bind fun r => bct r fun v w' => am_run 75 43 [none, some (.int l1), some (.int l2), some (.ref l3), none, none, some (.int l6)] (v.toList ++ [.long s3]) w' := by
  exact bkV bf75_40 bf75_43 rfl (by decide +kernel) (Nat.le_of_ble_eq_true rfl) rfl (bhd rfl)
theorem bk75_43 {w : am_Wd} {l1 : Int32} {l2 : Int32} {l3 : Nat} {l6 : Int32} {s0 : Int64} {s1 : Int64} : am_run 75 43 [none, some (.int l1), some (.int l2), some (.ref l3), none, none, some (.int l6)] [.long s0, .long s1] w = am_run 75 11 [none, some (.int l1), some (.int l2), some (.ref l3), some (.long (s1 &&& s0)), none, some (.int (l6 + (nI 1)))] [] w := by
  refine (bu (ls'' := [none, some (.int l1), some (.int l2), some (.ref l3), none, none, some (.int l6)]) (st' := [.long (s1 &&& s0)]) bf75_43 bf75_44 rfl rfl).trans ?_
  refine (bu (ls'' := [none, some (.int l1), some (.int l2), some (.ref l3), some (.long (s1 &&& s0)), none, some (.int l6)]) (st' := []) bf75_44 bf75_46 rfl rfl).trans ?_
  refine (bu (ls'' := [none, some (.int l1), some (.int l2), some (.ref l3), some (.long (s1 &&& s0)), none, some (.int (l6 + (nI 1)))]) (st' := []) bf75_46 bf75_49 rfl rfl).trans ?_
  refine (bu (ls'' := [none, some (.int l1), some (.int l2), some (.ref l3), some (.long (s1 &&& s0)), none, some (.int (l6 + (nI 1)))]) (st' := []) bf75_49 bf75_11 rfl rfl).trans ?_
  rfl
theorem bf76_0 : am_fetch (am_mth 76) 0 = some (.iload_n 0, 1, [], [2, 3]) := by decide +kernel
theorem bf76_1 : am_fetch (am_mth 76) 1 = some (.iload_n 1, 1, [], [2, 3]) := by decide +kernel
theorem bf76_2 : am_fetch (am_mth 76) 2 = some (.invokestatic 18, 3, [0, 13, 2, 180, 181, 57], [2, 3]) := by decide +kernel
theorem bf76_5 : am_fetch (am_mth 76) 5 = some (.istore_n 2, 1, [], [2, 3]) := by decide +kernel
theorem bf76_6 : am_fetch (am_mth 76) 6 = some (.iload_n 2, 1, [], [3]) := by decide +kernel
theorem bf76_7 : am_fetch (am_mth 76) 7 = some (.iconst (-1), 1, [], [3]) := by decide +kernel
theorem bf76_8 : am_fetch (am_mth 76) 8 = some (.if_icmp .ne 5, 3, [], [3]) := by decide +kernel
theorem bf76_11 : am_fetch (am_mth 76) 11 = some (.iconst (-1), 1, [], [0, 1, 2, 3]) := by decide +kernel
theorem bf76_12 : am_fetch (am_mth 76) 12 = some (.ireturn, 1, [0], [0, 1, 2, 3]) := by decide +kernel
theorem bf76_13 : am_fetch (am_mth 76) 13 = some (.iload_n 0, 1, [], [3]) := by decide +kernel
theorem bf76_14 : am_fetch (am_mth 76) 14 = some (.iload_n 2, 1, [], [0, 3]) := by decide +kernel
theorem bf76_15 : am_fetch (am_mth 76) 15 = some (.invokestatic 24, 3, [2, 190, 191, 59, 192], [0, 2, 3]) := by decide +kernel
theorem bf76_18 : am_fetch (am_mth 76) 18 = some (.iconst 2, 1, [], [0, 2, 3]) := by decide +kernel
theorem bf76_19 : am_fetch (am_mth 76) 19 = some (.imul, 1, [], [0, 2, 3]) := by decide +kernel
theorem bf76_20 : am_fetch (am_mth 76) 20 = some (.istore_n 3, 1, [], [0, 2, 3]) := by decide +kernel
theorem bf76_21 : am_fetch (am_mth 76) 21 = some (.iload_n 1, 1, [], [0, 2]) := by decide +kernel
theorem bf76_22 : am_fetch (am_mth 76) 22 = some (.ifCond .eq 8, 3, [], [0, 2]) := by decide +kernel
theorem bf76_25 : am_fetch (am_mth 76) 25 = some (.iload_n 1, 1, [], [0, 2]) := by decide +kernel
theorem bf76_26 : am_fetch (am_mth 76) 26 = some (.iconst 2, 1, [], [0, 1, 2]) := by decide +kernel
theorem bf76_27 : am_fetch (am_mth 76) 27 = some (.if_icmp .ne 9, 3, [], [0, 1, 2]) := by decide +kernel
theorem bf76_30 : am_fetch (am_mth 76) 30 = some (.iload_n 3, 1, [], [0, 1, 2]) := by decide +kernel
theorem bf76_31 : am_fetch (am_mth 76) 31 = some (.iconst 1, 1, [], [0, 1, 2, 3]) := by decide +kernel
theorem bf76_32 : am_fetch (am_mth 76) 32 = some (.iadd, 1, [], [0, 1, 2, 3]) := by decide +kernel
theorem bf76_33 : am_fetch (am_mth 76) 33 = some (.goto 4, 3, [], [0, 1, 2, 3]) := by decide +kernel
theorem bf76_36 : am_fetch (am_mth 76) 36 = some (.iload_n 3, 1, [], [0, 1, 2]) := by decide +kernel
theorem bf76_37 : am_fetch (am_mth 76) 37 = some (.ireturn, 1, [0], [0, 1, 2, 3]) := by decide +kernel
theorem bk76_0 {w : am_Wd} {l0 : Int32} {l1 : Int32} : am_run 76 0 [some (.int l0), some (.int l1), none, none] [] w = (am_x 13 [.int l0, .int l1] w).bind fun r => bct r fun v w' => am_run 76 5 [some (.int l0), some (.int l1), none, none] (v.toList ++ []) w' := by
  refine (bu (ls'' := [some (.int l0), some (.int l1), none, none]) (st' := [.int l0]) bf76_0 bf76_1 rfl rfl).trans ?_
  refine (bu (ls'' := [some (.int l0), some (.int l1), none, none]) (st' := [.int l1, .int l0]) bf76_1 bf76_2 rfl rfl).trans ?_
  exact bkS bf76_2 bf76_5 rfl (by decide +kernel) (Nat.le_of_ble_eq_true rfl) rfl (bhd rfl)
theorem bk76_5 {w : am_Wd} {l0 : Int32} {l1 : Int32} {s0 : Int32} : am_run 76 5 [some (.int l0), some (.int l1), none, none] [.int s0] w = if ¬ s0 = (-1 : Int32) then am_run 76 13 [some (.int l0), some (.int l1), some (.int s0), none] [] w else am_run 76 11 [none, none, none, none] [] w := by
  refine (bu (ls'' := [some (.int l0), some (.int l1), some (.int s0), none]) (st' := []) bf76_5 bf76_6 rfl rfl).trans ?_
  refine (bu (ls'' := [some (.int l0), some (.int l1), some (.int s0), none]) (st' := [.int s0]) bf76_6 bf76_7 rfl rfl).trans ?_
  refine (bu (ls'' := [some (.int l0), some (.int l1), some (.int s0), none]) (st' := [.int (-1 : Int32), .int s0]) bf76_7 bf76_8 rfl rfl).trans ?_
  exact bic bf76_8 rfl bf76_13 bf76_11 rfl rfl rfl
theorem bk76_13 {w : am_Wd} {l0 : Int32} {l1 : Int32} {l2 : Int32} : am_run 76 13 [some (.int l0), some (.int l1), some (.int l2), none] [] w = if l1 = nI 0 then am_run 76 30 [none, none, none, some (.int ((bj_min l0 l2) * (nI 2)))] [] w else am_run 76 25 [none, some (.int l1), none, some (.int ((bj_min l0 l2) * (nI 2)))] [] w := by
  refine (bu (ls'' := [none, some (.int l1), some (.int l2), none]) (st' := [.int l0]) bf76_13 bf76_14 rfl rfl).trans ?_
  refine (bu (ls'' := [none, some (.int l1), none, none]) (st' := [.int l2, .int l0]) bf76_14 bf76_15 rfl rfl).trans ?_
  refine (bu (ls'' := [none, some (.int l1), none, none]) (st' := [.int (bj_min l0 l2)]) bf76_15 bf76_18 rfl rfl).trans ?_
  refine (bu (ls'' := [none, some (.int l1), none, none]) (st' := [.int (nI 2), .int (bj_min l0 l2)]) bf76_18 bf76_19 rfl rfl).trans ?_
  refine (bu (ls'' := [none, some (.int l1), none, none]) (st' := [.int ((bj_min l0 l2) * (nI 2))]) bf76_19 bf76_20 rfl rfl).trans ?_
  refine (bu (ls'' := [none, some (.int l1), none, some (.int ((bj_min l0 l2) * (nI 2)))]) (st' := []) bf76_20 bf76_21 rfl rfl).trans ?_
  refine (bu (ls'' := [none, some (.int l1), none, some (.int ((bj_min l0 l2) * (nI 2)))]) (st' := [.int l1]) bf76_21 bf76_22 rfl rfl).trans ?_
  exact bifc bf76_22 rfl bf76_30 bf76_25 rfl rfl rfl
theorem bk76_11 {w : am_Wd}  : am_run 76 11 [none, none, none, none] [] w = some (.inl (some (.int (-1 : Int32))), w) := by
  refine (bu (ls'' := [none, none, none, none]) (st' := [.int (-1 : Int32)]) bf76_11 bf76_12 rfl rfl).trans ?_
  exact am_e2 bf76_12 rfl (am_ge_rf w)
theorem bk76_30 {w : am_Wd} {l3 : Int32} : am_run 76 30 [none, none, none, some (.int l3)] [] w = am_run 76 37 [none, none, none, none] [.int (l3 + (nI 1))] w := by
  refine (bu (ls'' := [none, none, none, none]) (st' := [.int l3]) bf76_30 bf76_31 rfl rfl).trans ?_
  refine (bu (ls'' := [none, none, none, none]) (st' := [.int (nI 1), .int l3]) bf76_31 bf76_32 rfl rfl).trans ?_
  refine (bu (ls'' := [none, none, none, none]) (st' := [.int (l3 + (nI 1))]) bf76_32 bf76_33 rfl rfl).trans ?_
  refine (bu (ls'' := [none, none, none, none]) (st' := [.int (l3 + (nI 1))]) bf76_33 bf76_37 rfl rfl).trans ?_
  rfl
theorem bk76_25 {w : am_Wd} {l1 : Int32} {l3 : Int32} : am_run 76 25 [none, some (.int l1), none, some (.int l3)] [] w = if ¬ l1 = (nI 2) then am_run 76 36 [none, none, none, some (.int l3)] [] w else am_run 76 30 [none, none, none, some (.int l3)] [] w := by
  refine (bu (ls'' := [none, none, none, some (.int l3)]) (st' := [.int l1]) bf76_25 bf76_26 rfl rfl).trans ?_
  refine (bu (ls'' := [none, none, none, some (.int l3)]) (st' := [.int (nI 2), .int l1]) bf76_26 bf76_27 rfl rfl).trans ?_
  exact bic bf76_27 rfl bf76_36 bf76_30 rfl rfl rfl
theorem bk76_37 {w : am_Wd} {s0 : Int32} : am_run 76 37 [none, none, none, none] [.int s0] w = some (.inl (some (.int s0)), w) := by
  exact am_e2 bf76_37 rfl (am_ge_rf w)
theorem bk76_36 {w : am_Wd} {l3 : Int32} : am_run 76 36 [none, none, none, some (.int l3)] [] w = am_run 76 37 [none, none, none, none] [.int l3] w := by
  refine (bu (ls'' := [none, none, none, none]) (st' := [.int l3]) bf76_36 bf76_37 rfl rfl).trans ?_
  rfl
theorem bf77_0 : am_fetch (am_mth 77) 0 = some (.iconst 0, 1, [], [2, 3]) := by decide +kernel
theorem bf77_1 : am_fetch (am_mth 77) 1 = some (.istore_n 2, 1, [], [2, 3]) := by decide +kernel
theorem bf77_2 : am_fetch (am_mth 77) 2 = some (.iconst 0, 1, [], [3]) := by decide +kernel
theorem bf77_3 : am_fetch (am_mth 77) 3 = some (.istore_n 3, 1, [], [3]) := by decide +kernel
theorem bf77_4 : am_fetch (am_mth 77) 4 = some (.iload_n 3, 1, [], []) := by decide +kernel
theorem bf77_5 : am_fetch (am_mth 77) 5 = some (.bipush 72, 2, [], []) := by decide +kernel
theorem bf77_7 : am_fetch (am_mth 77) 7 = some (.if_icmp .ge 35, 3, [], []) := by decide +kernel
theorem bf77_10 : am_fetch (am_mth 77) 10 = some (.aload_n 0, 1, [], []) := by decide +kernel
theorem bf77_11 : am_fetch (am_mth 77) 11 = some (.getfield 11, 3, [0, 5, 0, 93], []) := by decide +kernel
theorem bf77_14 : am_fetch (am_mth 77) 14 = some (.iload_n 3, 1, [], []) := by decide +kernel
theorem bf77_15 : am_fetch (am_mth 77) 15 = some (.iaload, 1, [], []) := by decide +kernel
theorem bf77_16 : am_fetch (am_mth 77) 16 = some (.iconst 2, 1, [], []) := by decide +kernel
theorem bf77_17 : am_fetch (am_mth 77) 17 = some (.if_icmp .ne 19, 3, [], []) := by decide +kernel
theorem bf77_20 : am_fetch (am_mth 77) 20 = some (.aload_n 0, 1, [], []) := by decide +kernel
theorem bf77_21 : am_fetch (am_mth 77) 21 = some (.getfield 15, 3, [0, 5, 1, 94], []) := by decide +kernel
theorem bf77_24 : am_fetch (am_mth 77) 24 = some (.iload_n 3, 1, [], []) := by decide +kernel
theorem bf77_25 : am_fetch (am_mth 77) 25 = some (.iaload, 1, [], []) := by decide +kernel
theorem bf77_26 : am_fetch (am_mth 77) 26 = some (.iload_n 1, 1, [], []) := by decide +kernel
theorem bf77_27 : am_fetch (am_mth 77) 27 = some (.invokestatic 53, 3, [0, 9, 2, 196, 197, 47], []) := by decide +kernel
theorem bf77_30 : am_fetch (am_mth 77) 30 = some (.ifCond .eq 6, 3, [], []) := by decide +kernel
theorem bf77_33 : am_fetch (am_mth 77) 33 = some (.iinc 2 1, 3, [], []) := by decide +kernel
theorem bf77_36 : am_fetch (am_mth 77) 36 = some (.iinc 3 1, 3, [], []) := by decide +kernel
theorem bf77_39 : am_fetch (am_mth 77) 39 = some (.goto (-35), 3, [], []) := by decide +kernel
theorem bf77_42 : am_fetch (am_mth 77) 42 = some (.iload_n 2, 1, [], [0, 1, 3]) := by decide +kernel
theorem bf77_43 : am_fetch (am_mth 77) 43 = some (.ireturn, 1, [0], [0, 1, 2, 3]) := by decide +kernel
theorem bk77_0 {w : am_Wd} {l0 : Nat} {l1 : Int32} : am_run 77 0 [some (.ref l0), some (.int l1), none, none] [] w = am_run 77 4 [some (.ref l0), some (.int l1), some (.int (nI 0)), some (.int (nI 0))] [] w := by
  refine (bu (ls'' := [some (.ref l0), some (.int l1), none, none]) (st' := [.int (nI 0)]) bf77_0 bf77_1 rfl rfl).trans ?_
  refine (bu (ls'' := [some (.ref l0), some (.int l1), some (.int (nI 0)), none]) (st' := []) bf77_1 bf77_2 rfl rfl).trans ?_
  refine (bu (ls'' := [some (.ref l0), some (.int l1), some (.int (nI 0)), none]) (st' := [.int (nI 0)]) bf77_2 bf77_3 rfl rfl).trans ?_
  refine (bu (ls'' := [some (.ref l0), some (.int l1), some (.int (nI 0)), some (.int (nI 0))]) (st' := []) bf77_3 bf77_4 rfl rfl).trans ?_
  rfl
theorem bk77_4 {w : am_Wd} {l0 : Nat} {l1 : Int32} {l2 : Int32} {l3 : Int32} : am_run 77 4 [some (.ref l0), some (.int l1), some (.int l2), some (.int l3)] [] w = if (nI 72) ≤ l3 then am_run 77 42 [none, none, some (.int l2), none] [] w else am_run 77 10 [some (.ref l0), some (.int l1), some (.int l2), some (.int l3)] [] w := by
  refine (bu (ls'' := [some (.ref l0), some (.int l1), some (.int l2), some (.int l3)]) (st' := [.int l3]) bf77_4 bf77_5 rfl rfl).trans ?_
  refine (bu (ls'' := [some (.ref l0), some (.int l1), some (.int l2), some (.int l3)]) (st' := [.int (nI 72), .int l3]) bf77_5 bf77_7 rfl rfl).trans ?_
  exact bic bf77_7 rfl bf77_42 bf77_10 rfl rfl rfl
theorem bk77_42 {w : am_Wd} {l2 : Int32} : am_run 77 42 [none, none, some (.int l2), none] [] w = some (.inl (some (.int l2)), w) := by
  refine (bu (ls'' := [none, none, none, none]) (st' := [.int l2]) bf77_42 bf77_43 rfl rfl).trans ?_
  exact am_e2 bf77_43 rfl (am_ge_rf w)
theorem bk77_10 {w : am_Wd} {l0 : Nat} {l1 : Int32} {l2 : Int32} {l3 : Int32} : am_run 77 10 [some (.ref l0), some (.int l1), some (.int l2), some (.int l3)] [] w = (am_gf w l0 5 0).bind fun v => am_run 77 14 [some (.ref l0), some (.int l1), some (.int l2), some (.int l3)] (v :: []) w := by
  refine (bu (ls'' := [some (.ref l0), some (.int l1), some (.int l2), some (.int l3)]) (st' := [.ref l0]) bf77_10 bf77_11 rfl rfl).trans ?_
  exact bh bf77_11 bf77_14 rfl (fun _ _ => am_ge_rf w) rfl
theorem bk77_14 {w : am_Wd} {l0 : Nat} {l1 : Int32} {l2 : Int32} {l3 : Int32} {s0 : Nat} : am_run 77 14 [some (.ref l0), some (.int l1), some (.int l2), some (.int l3)] [.ref s0] w = (am_ri 0 w s0 l3).bind fun v => am_run 77 16 [some (.ref l0), some (.int l1), some (.int l2), some (.int l3)] (.int v :: []) w := by
  refine (bu (ls'' := [some (.ref l0), some (.int l1), some (.int l2), some (.int l3)]) (st' := [.int l3, .ref s0]) bf77_14 bf77_15 rfl rfl).trans ?_
  exact bh bf77_15 bf77_16 rfl (fun _ _ => am_ge_rf w) rfl
theorem bk77_16 {w : am_Wd} {l0 : Nat} {l1 : Int32} {l2 : Int32} {l3 : Int32} {s0 : Int32} : am_run 77 16 [some (.ref l0), some (.int l1), some (.int l2), some (.int l3)] [.int s0] w = if ¬ s0 = (nI 2) then am_run 77 36 [some (.ref l0), some (.int l1), some (.int l2), some (.int l3)] [] w else am_run 77 20 [some (.ref l0), some (.int l1), some (.int l2), some (.int l3)] [] w := by
  refine (bu (ls'' := [some (.ref l0), some (.int l1), some (.int l2), some (.int l3)]) (st' := [.int (nI 2), .int s0]) bf77_16 bf77_17 rfl rfl).trans ?_
  exact bic bf77_17 rfl bf77_36 bf77_20 rfl rfl rfl
theorem bk77_36 {w : am_Wd} {l0 : Nat} {l1 : Int32} {l2 : Int32} {l3 : Int32} : am_run 77 36 [some (.ref l0), some (.int l1), some (.int l2), some (.int l3)] [] w = am_run 77 4 [some (.ref l0), some (.int l1), some (.int l2), some (.int (l3 + (nI 1)))] [] w := by
  refine (bu (ls'' := [some (.ref l0), some (.int l1), some (.int l2), some (.int (l3 + (nI 1)))]) (st' := []) bf77_36 bf77_39 rfl rfl).trans ?_
  refine (bu (ls'' := [some (.ref l0), some (.int l1), some (.int l2), some (.int (l3 + (nI 1)))]) (st' := []) bf77_39 bf77_4 rfl rfl).trans ?_
  rfl
theorem bk77_20 {w : am_Wd} {l0 : Nat} {l1 : Int32} {l2 : Int32} {l3 : Int32} : am_run 77 20 [some (.ref l0), some (.int l1), some (.int l2), some (.int l3)] [] w = (am_gf w l0 5 1).bind fun v => am_run 77 24 [some (.ref l0), some (.int l1), some (.int l2), some (.int l3)] (v :: []) w := by
  refine (bu (ls'' := [some (.ref l0), some (.int l1), some (.int l2), some (.int l3)]) (st' := [.ref l0]) bf77_20 bf77_21 rfl rfl).trans ?_
  exact bh bf77_21 bf77_24 rfl (fun _ _ => am_ge_rf w) rfl
theorem bk77_24 {w : am_Wd} {l0 : Nat} {l1 : Int32} {l2 : Int32} {l3 : Int32} {s0 : Nat} : am_run 77 24 [some (.ref l0), some (.int l1), some (.int l2), some (.int l3)] [.ref s0] w = (am_ri 0 w s0 l3).bind fun v => am_run 77 26 [some (.ref l0), some (.int l1), some (.int l2), some (.int l3)] (.int v :: []) w := by
  refine (bu (ls'' := [some (.ref l0), some (.int l1), some (.int l2), some (.int l3)]) (st' := [.int l3, .ref s0]) bf77_24 bf77_25 rfl rfl).trans ?_
  exact bh bf77_25 bf77_26 rfl (fun _ _ => am_ge_rf w) rfl
theorem bk77_26 {w : am_Wd} {l0 : Nat} {l1 : Int32} {l2 : Int32} {l3 : Int32} {s0 : Int32} : am_run 77 26 [some (.ref l0), some (.int l1), some (.int l2), some (.int l3)] [.int s0] w = (am_x 9 [.int s0, .int l1] w).bind fun r => bct r fun v w' => am_run 77 30 [some (.ref l0), some (.int l1), some (.int l2), some (.int l3)] (v.toList ++ []) w' := by
  refine (bu (ls'' := [some (.ref l0), some (.int l1), some (.int l2), some (.int l3)]) (st' := [.int l1, .int s0]) bf77_26 bf77_27 rfl rfl).trans ?_
  exact bkS bf77_27 bf77_30 rfl (by decide +kernel) (Nat.le_of_ble_eq_true rfl) rfl (bhd rfl)
theorem bk77_30 {w : am_Wd} {l0 : Nat} {l1 : Int32} {l2 : Int32} {l3 : Int32} {s0 : Int32} : am_run 77 30 [some (.ref l0), some (.int l1), some (.int l2), some (.int l3)] [.int s0] w = if s0 = nI 0 then am_run 77 36 [some (.ref l0), some (.int l1), some (.int l2), some (.int l3)] [] w else am_run 77 33 [some (.ref l0), some (.int l1), some (.int l2), some (.int l3)] [] w := by
  exact bifc bf77_30 rfl bf77_36 bf77_33 rfl rfl rfl
theorem bk77_33 {w : am_Wd} {l0 : Nat} {l1 : Int32} {l2 : Int32} {l3 : Int32} : am_run 77 33 [some (.ref l0), some (.int l1), some (.int l2), some (.int l3)] [] w = am_run 77 36 [some (.ref l0), some (.int l1), some (.int (l2 + (nI 1))), some (.int l3)] [] w := by
  refine (bu (ls'' := [some (.ref l0), some (.int l1), some (.int (l2 + (nI 1))), some (.int l3)]) (st' := []) bf77_33 bf77_36 rfl rfl).trans ?_
  rfl
theorem bf78_0 : am_fetch (am_mth 78) 0 = some (.aload_n 0, 1, [], [1]) := by decide +kernel
theorem bf78_1 : am_fetch (am_mth 78) 1 = some (.invokevirtual 46, 3, [0, 17, 0, 6, 688, 668, 669, 63], [1]) := by decide +kernel
theorem bf78_4 : am_fetch (am_mth 78) 4 = some (.aload_n 0, 1, [], [1]) := by decide +kernel
theorem bf78_5 : am_fetch (am_mth 78) 5 = some (.invokevirtual 49, 3, [0, 18, 0, 6, 689, 672, 673, 63], [1]) := by decide +kernel
theorem bf78_8 : am_fetch (am_mth 78) 8 = some (.invokestatic 52, 3, [0, 13, 2, 690, 181, 57], [1]) := by decide +kernel
theorem bf78_11 : am_fetch (am_mth 78) 11 = some (.istore_n 1, 1, [], [1]) := by decide +kernel
theorem bf78_12 : am_fetch (am_mth 78) 12 = some (.iload_n 1, 1, [], []) := by decide +kernel
theorem bf78_13 : am_fetch (am_mth 78) 13 = some (.iconst (-1), 1, [], []) := by decide +kernel
theorem bf78_14 : am_fetch (am_mth 78) 14 = some (.if_icmp .eq 15, 3, [], []) := by decide +kernel
theorem bf78_17 : am_fetch (am_mth 78) 17 = some (.aload_n 0, 1, [], []) := by decide +kernel
theorem bf78_18 : am_fetch (am_mth 78) 18 = some (.iload_n 1, 1, [], []) := by decide +kernel
theorem bf78_19 : am_fetch (am_mth 78) 19 = some (.iconst 4, 1, [], [1]) := by decide +kernel
theorem bf78_20 : am_fetch (am_mth 78) 20 = some (.imul, 1, [], [1]) := by decide +kernel
theorem bf78_21 : am_fetch (am_mth 78) 21 = some (.aload_n 0, 1, [], [1]) := by decide +kernel
theorem bf78_22 : am_fetch (am_mth 78) 22 = some (.invokevirtual 49, 3, [0, 18, 0, 6, 689, 672, 673, 63], [0, 1]) := by decide +kernel
theorem bf78_25 : am_fetch (am_mth 78) 25 = some (.iadd, 1, [], [0, 1]) := by decide +kernel
theorem bf78_26 : am_fetch (am_mth 78) 26 = some (.putfield 29, 3, [0, 6, 3, 616], [0, 1]) := by decide +kernel
theorem bf78_29 : am_fetch (am_mth 78) 29 = some (.return_, 1, [], [0, 1]) := by decide +kernel
theorem bk78_0 {w : am_Wd} {l0 : Nat} : am_run 78 0 [some (.ref l0), none] [] w = (am_kf w l0 6).bind fun _ => (am_x 17 [.ref l0] w).bind fun r => bct r fun v w' => am_run 78 4 [some (.ref l0), none] (v.toList ++ []) w' := by
  refine (bu (ls'' := [some (.ref l0), none]) (st' := [.ref l0]) bf78_0 bf78_1 rfl rfl).trans ?_
  exact bkV bf78_1 bf78_4 rfl (by decide +kernel) (Nat.le_of_ble_eq_true rfl) rfl (bhd rfl)
theorem bk78_4 {w : am_Wd} {l0 : Nat} {s0 : Int32} : am_run 78 4 [some (.ref l0), none] [.int s0] w = (am_kf w l0 6).bind fun _ => (am_x 18 [.ref l0] w).bind fun r => bct r fun v w' => am_run 78 8 [some (.ref l0), none] (v.toList ++ [.int s0]) w' := by
  refine (bu (ls'' := [some (.ref l0), none]) (st' := [.ref l0, .int s0]) bf78_4 bf78_5 rfl rfl).trans ?_
  exact bkV bf78_5 bf78_8 rfl (by decide +kernel) (Nat.le_of_ble_eq_true rfl) rfl (bhd rfl)
theorem bk78_8 {w : am_Wd} {l0 : Nat} {s0 : Int32} {s1 : Int32} : am_run 78 8 [some (.ref l0), none] [.int s0, .int s1] w = (am_x 13 [.int s1, .int s0] w).bind fun r => bct r fun v w' => am_run 78 11 [some (.ref l0), none] (v.toList ++ []) w' := by
  exact bkS bf78_8 bf78_11 rfl (by decide +kernel) (Nat.le_of_ble_eq_true rfl) rfl (bhd rfl)
theorem bk78_11 {w : am_Wd} {l0 : Nat} {s0 : Int32} : am_run 78 11 [some (.ref l0), none] [.int s0] w = if s0 = (-1 : Int32) then am_run 78 29 [none, none] [] w else am_run 78 17 [some (.ref l0), some (.int s0)] [] w := by
  refine (bu (ls'' := [some (.ref l0), some (.int s0)]) (st' := []) bf78_11 bf78_12 rfl rfl).trans ?_
  refine (bu (ls'' := [some (.ref l0), some (.int s0)]) (st' := [.int s0]) bf78_12 bf78_13 rfl rfl).trans ?_
  refine (bu (ls'' := [some (.ref l0), some (.int s0)]) (st' := [.int (-1 : Int32), .int s0]) bf78_13 bf78_14 rfl rfl).trans ?_
  exact bic bf78_14 rfl bf78_29 bf78_17 rfl rfl rfl
theorem bk78_29 {w : am_Wd}  : am_run 78 29 [none, none] [] w = some (.inl none, w) := by
  exact am_e2 bf78_29 rfl (am_ge_rf w)
theorem bk78_17 {w : am_Wd} {l0 : Nat} {l1 : Int32} : am_run 78 17 [some (.ref l0), some (.int l1)] [] w = (am_kf w l0 6).bind fun _ => (am_x 18 [.ref l0] w).bind fun r => bct r fun v w' => am_run 78 25 [none, none] (v.toList ++ [.int (l1 * (nI 4)), .ref l0]) w' := by
  refine (bu (ls'' := [some (.ref l0), some (.int l1)]) (st' := [.ref l0]) bf78_17 bf78_18 rfl rfl).trans ?_
  refine (bu (ls'' := [some (.ref l0), none]) (st' := [.int l1, .ref l0]) bf78_18 bf78_19 rfl rfl).trans ?_
  refine (bu (ls'' := [some (.ref l0), none]) (st' := [.int (nI 4), .int l1, .ref l0]) bf78_19 bf78_20 rfl rfl).trans ?_
  refine (bu (ls'' := [some (.ref l0), none]) (st' := [.int (l1 * (nI 4)), .ref l0]) bf78_20 bf78_21 rfl rfl).trans ?_
  refine (bu (ls'' := [none, none]) (st' := [.ref l0, .int (l1 * (nI 4)), .ref l0]) bf78_21 bf78_22 rfl rfl).trans ?_
  exact bkV bf78_22 bf78_25 rfl (by decide +kernel) (Nat.le_of_ble_eq_true rfl) rfl (bhd rfl)
theorem bk78_25 {w : am_Wd} {s0 : Int32} {s1 : Int32} {s2 : Nat} : am_run 78 25 [none, none] [.int s0, .int s1, .ref s2] w = (am_pf w s2 6 3 (.int (s1 + s0))).bind fun w' => am_run 78 29 [none, none] [] w' := by
  refine (bu (ls'' := [none, none]) (st' := [.int (s1 + s0), .ref s2]) bf78_25 bf78_26 rfl rfl).trans ?_
  exact bh bf78_26 bf78_29 rfl (bge_pf) rfl
theorem bf79_0 : am_fetch (am_mth 79) 0 = some (.aload_n 0, 1, [], [2]) := by decide +kernel
theorem bf79_1 : am_fetch (am_mth 79) 1 = some (.invokevirtual 49, 3, [0, 18, 0, 6, 689, 672, 673, 63], [2]) := by decide +kernel
theorem bf79_4 : am_fetch (am_mth 79) 4 = some (.iload_n 1, 1, [], [2]) := by decide +kernel
theorem bf79_5 : am_fetch (am_mth 79) 5 = some (.ifCond .eq 7, 3, [], [2]) := by decide +kernel
theorem bf79_8 : am_fetch (am_mth 79) 8 = some (.iconst 1, 1, [], [2]) := by decide +kernel
theorem bf79_9 : am_fetch (am_mth 79) 9 = some (.goto 4, 3, [], [2]) := by decide +kernel
theorem bf79_12 : am_fetch (am_mth 79) 12 = some (.iconst 3, 1, [], [2]) := by decide +kernel
theorem bf79_13 : am_fetch (am_mth 79) 13 = some (.iadd, 1, [], [2]) := by decide +kernel
theorem bf79_14 : am_fetch (am_mth 79) 14 = some (.iconst 3, 1, [], [2]) := by decide +kernel
theorem bf79_15 : am_fetch (am_mth 79) 15 = some (.iand, 1, [], [2]) := by decide +kernel
theorem bf79_16 : am_fetch (am_mth 79) 16 = some (.istore_n 2, 1, [], [2]) := by decide +kernel
theorem bf79_17 : am_fetch (am_mth 79) 17 = some (.aload_n 0, 1, [], []) := by decide +kernel
theorem bf79_18 : am_fetch (am_mth 79) 18 = some (.aload_n 0, 1, [], []) := by decide +kernel
theorem bf79_19 : am_fetch (am_mth 79) 19 = some (.invokevirtual 46, 3, [0, 17, 0, 6, 688, 668, 669, 63], []) := by decide +kernel
theorem bf79_22 : am_fetch (am_mth 79) 22 = some (.iconst 4, 1, [], []) := by decide +kernel
theorem bf79_23 : am_fetch (am_mth 79) 23 = some (.imul, 1, [], []) := by decide +kernel
theorem bf79_24 : am_fetch (am_mth 79) 24 = some (.iload_n 2, 1, [], []) := by decide +kernel
theorem bf79_25 : am_fetch (am_mth 79) 25 = some (.iadd, 1, [], [2]) := by decide +kernel
theorem bf79_26 : am_fetch (am_mth 79) 26 = some (.putfield 29, 3, [0, 6, 3, 616], [2]) := by decide +kernel
theorem bf79_29 : am_fetch (am_mth 79) 29 = some (.iload_n 1, 1, [], [2]) := by decide +kernel
theorem bf79_30 : am_fetch (am_mth 79) 30 = some (.ifCond .eq 13, 3, [], [1, 2]) := by decide +kernel
theorem bf79_33 : am_fetch (am_mth 79) 33 = some (.aload_n 0, 1, [], [1, 2]) := by decide +kernel
theorem bf79_34 : am_fetch (am_mth 79) 34 = some (.getfield 21, 3, [0, 6, 2, 614], [0, 1, 2]) := by decide +kernel
theorem bf79_37 : am_fetch (am_mth 79) 37 = some (.invokevirtual 58, 3, [0, 4, 0, 4, 727, 728, 729, 65], [0, 1, 2]) := by decide +kernel
theorem bf79_40 : am_fetch (am_mth 79) 40 = some (.goto 10, 3, [], [0, 1, 2]) := by decide +kernel
theorem bf79_43 : am_fetch (am_mth 79) 43 = some (.aload_n 0, 1, [], [1, 2]) := by decide +kernel
theorem bf79_44 : am_fetch (am_mth 79) 44 = some (.getfield 21, 3, [0, 6, 2, 614], [0, 1, 2]) := by decide +kernel
theorem bf79_47 : am_fetch (am_mth 79) 47 = some (.invokevirtual 61, 3, [0, 5, 0, 4, 731, 732, 733, 65], [0, 1, 2]) := by decide +kernel
theorem bf79_50 : am_fetch (am_mth 79) 50 = some (.return_, 1, [], [0, 1, 2]) := by decide +kernel
theorem bk79_0 {w : am_Wd} {l0 : Nat} {l1 : Int32} : am_run 79 0 [some (.ref l0), some (.int l1), none] [] w = (am_kf w l0 6).bind fun _ => (am_x 18 [.ref l0] w).bind fun r => bct r fun v w' => am_run 79 4 [some (.ref l0), some (.int l1), none] (v.toList ++ []) w' := by
  refine (bu (ls'' := [some (.ref l0), some (.int l1), none]) (st' := [.ref l0]) bf79_0 bf79_1 rfl rfl).trans ?_
  exact bkV bf79_1 bf79_4 rfl (by decide +kernel) (Nat.le_of_ble_eq_true rfl) rfl (bhd rfl)
theorem bk79_4 {w : am_Wd} {l0 : Nat} {l1 : Int32} {s0 : Int32} : am_run 79 4 [some (.ref l0), some (.int l1), none] [.int s0] w = if l1 = nI 0 then am_run 79 12 [some (.ref l0), some (.int l1), none] [.int s0] w else am_run 79 8 [some (.ref l0), some (.int l1), none] [.int s0] w := by
  refine (bu (ls'' := [some (.ref l0), some (.int l1), none]) (st' := [.int l1, .int s0]) bf79_4 bf79_5 rfl rfl).trans ?_
  exact bifc bf79_5 rfl bf79_12 bf79_8 rfl rfl rfl
theorem bk79_12 {w : am_Wd} {l0 : Nat} {l1 : Int32} {s0 : Int32} : am_run 79 12 [some (.ref l0), some (.int l1), none] [.int s0] w = am_run 79 13 [some (.ref l0), some (.int l1), none] [.int (nI 3), .int s0] w := by
  refine (bu (ls'' := [some (.ref l0), some (.int l1), none]) (st' := [.int (nI 3), .int s0]) bf79_12 bf79_13 rfl rfl).trans ?_
  rfl
theorem bk79_8 {w : am_Wd} {l0 : Nat} {l1 : Int32} {s0 : Int32} : am_run 79 8 [some (.ref l0), some (.int l1), none] [.int s0] w = am_run 79 13 [some (.ref l0), some (.int l1), none] [.int (nI 1), .int s0] w := by
  refine (bu (ls'' := [some (.ref l0), some (.int l1), none]) (st' := [.int (nI 1), .int s0]) bf79_8 bf79_9 rfl rfl).trans ?_
  refine (bu (ls'' := [some (.ref l0), some (.int l1), none]) (st' := [.int (nI 1), .int s0]) bf79_9 bf79_13 rfl rfl).trans ?_
  rfl
theorem bk79_13 {w : am_Wd} {l0 : Nat} {l1 : Int32} {s0 : Int32} {s1 : Int32} : am_run 79 13 [some (.ref l0), some (.int l1), none] [.int s0, .int s1] w = (am_kf w l0 6).bind fun _ => (am_x 17 [.ref l0] w).bind fun r => bct r fun v w' => am_run 79 22 [some (.ref l0), some (.int l1), some (.int ((s1 + s0) &&& (nI 3)))] (v.toList ++ [.ref l0]) w' := by
  refine (bu (ls'' := [some (.ref l0), some (.int l1), none]) (st' := [.int (s1 + s0)]) bf79_13 bf79_14 rfl rfl).trans ?_
  refine (bu (ls'' := [some (.ref l0), some (.int l1), none]) (st' := [.int (nI 3), .int (s1 + s0)]) bf79_14 bf79_15 rfl rfl).trans ?_
  refine (bu (ls'' := [some (.ref l0), some (.int l1), none]) (st' := [.int ((s1 + s0) &&& (nI 3))]) bf79_15 bf79_16 rfl rfl).trans ?_
  refine (bu (ls'' := [some (.ref l0), some (.int l1), some (.int ((s1 + s0) &&& (nI 3)))]) (st' := []) bf79_16 bf79_17 rfl rfl).trans ?_
  refine (bu (ls'' := [some (.ref l0), some (.int l1), some (.int ((s1 + s0) &&& (nI 3)))]) (st' := [.ref l0]) bf79_17 bf79_18 rfl rfl).trans ?_
  refine (bu (ls'' := [some (.ref l0), some (.int l1), some (.int ((s1 + s0) &&& (nI 3)))]) (st' := [.ref l0, .ref l0]) bf79_18 bf79_19 rfl rfl).trans ?_
  exact bkV bf79_19 bf79_22 rfl (by decide +kernel) (Nat.le_of_ble_eq_true rfl) rfl (bhd rfl)
theorem bk79_22 {w : am_Wd} {l0 : Nat} {l1 : Int32} {l2 : Int32} {s0 : Int32} {s1 : Nat} : am_run 79 22 [some (.ref l0), some (.int l1), some (.int l2)] [.int s0, .ref s1] w = (am_pf w s1 6 3 (.int ((s0 * (nI 4)) + l2))).bind fun w' => am_run 79 29 [some (.ref l0), some (.int l1), none] [] w' := by
  refine (bu (ls'' := [some (.ref l0), some (.int l1), some (.int l2)]) (st' := [.int (nI 4), .int s0, .ref s1]) bf79_22 bf79_23 rfl rfl).trans ?_
  refine (bu (ls'' := [some (.ref l0), some (.int l1), some (.int l2)]) (st' := [.int (s0 * (nI 4)), .ref s1]) bf79_23 bf79_24 rfl rfl).trans ?_
  refine (bu (ls'' := [some (.ref l0), some (.int l1), none]) (st' := [.int l2, .int (s0 * (nI 4)), .ref s1]) bf79_24 bf79_25 rfl rfl).trans ?_
  refine (bu (ls'' := [some (.ref l0), some (.int l1), none]) (st' := [.int ((s0 * (nI 4)) + l2), .ref s1]) bf79_25 bf79_26 rfl rfl).trans ?_
  exact bh bf79_26 bf79_29 rfl (bge_pf) rfl
theorem bk79_29 {w : am_Wd} {l0 : Nat} {l1 : Int32} : am_run 79 29 [some (.ref l0), some (.int l1), none] [] w = if l1 = nI 0 then am_run 79 43 [some (.ref l0), none, none] [] w else am_run 79 33 [some (.ref l0), none, none] [] w := by
  refine (bu (ls'' := [some (.ref l0), none, none]) (st' := [.int l1]) bf79_29 bf79_30 rfl rfl).trans ?_
  exact bifc bf79_30 rfl bf79_43 bf79_33 rfl rfl rfl
theorem bk79_43 {w : am_Wd} {l0 : Nat} : am_run 79 43 [some (.ref l0), none, none] [] w = (am_gf w l0 6 2).bind fun v => am_run 79 47 [none, none, none] (v :: []) w := by
  refine (bu (ls'' := [none, none, none]) (st' := [.ref l0]) bf79_43 bf79_44 rfl rfl).trans ?_
  exact bh bf79_44 bf79_47 rfl (fun _ _ => am_ge_rf w) rfl
theorem bk79_33 {w : am_Wd} {l0 : Nat} : am_run 79 33 [some (.ref l0), none, none] [] w = (am_gf w l0 6 2).bind fun v => am_run 79 37 [none, none, none] (v :: []) w := by
  refine (bu (ls'' := [none, none, none]) (st' := [.ref l0]) bf79_33 bf79_34 rfl rfl).trans ?_
  exact bh bf79_34 bf79_37 rfl (fun _ _ => am_ge_rf w) rfl
theorem bk79_47 {w : am_Wd} {s0 : Nat} : am_run 79 47 [none, none, none] [.ref s0] w = (am_kf w s0 4).bind fun _ => (am_x 5 [.ref s0] w).bind fun r => bct r fun v w' => am_run 79 50 [none, none, none] (v.toList ++ []) w' := by
  exact bkV bf79_47 bf79_50 rfl (by decide +kernel) (Nat.le_of_ble_eq_true rfl) rfl (bhd rfl)
theorem bk79_37 {w : am_Wd} {s0 : Nat} : am_run 79 37 [none, none, none] [.ref s0] w = (am_kf w s0 4).bind fun _ => (am_x 4 [.ref s0] w).bind fun r => bct r fun v w' => am_run 79 40 [none, none, none] (v.toList ++ []) w' := by
  exact bkV bf79_37 bf79_40 rfl (by decide +kernel) (Nat.le_of_ble_eq_true rfl) rfl (bhd rfl)
theorem bk79_50 {w : am_Wd}  : am_run 79 50 [none, none, none] [] w = some (.inl none, w) := by
  exact am_e2 bf79_50 rfl (am_ge_rf w)
theorem bk79_40 {w : am_Wd}  : am_run 79 40 [none, none, none] [] w = am_run 79 50 [none, none, none] [] w := by
  refine (bu (ls'' := [none, none, none]) (st' := []) bf79_40 bf79_50 rfl rfl).trans ?_
  rfl
theorem bf80_0 : am_fetch (am_mth 80) 0 = some (.aload_n 0, 1, [], []) := by decide +kernel
theorem bf80_1 : am_fetch (am_mth 80) 1 = some (.invokespecial 3, 3, [1, 570, 85, 86], []) := by decide +kernel
theorem bf80_4 : am_fetch (am_mth 80) 4 = some (.aload_n 0, 1, [], []) := by decide +kernel
theorem bf80_5 : am_fetch (am_mth 80) 5 = some (.iconst 4, 1, [], []) := by decide +kernel
theorem bf80_6 : am_fetch (am_mth 80) 6 = some (.newarray .long, 2, [1, 590], []) := by decide +kernel
theorem bf80_8 : am_fetch (am_mth 80) 8 = some (.putfield 9, 3, [0, 7, 0, 583], []) := by decide +kernel
theorem bf80_11 : am_fetch (am_mth 80) 11 = some (.aload_n 0, 1, [], []) := by decide +kernel
theorem bf80_12 : am_fetch (am_mth 80) 12 = some (.invokestatic 15, 3, [0, 12, 0, 571, 572, 57], [0]) := by decide +kernel
theorem bf80_15 : am_fetch (am_mth 80) 15 = some (.putfield 21, 3, [0, 7, 1, 584], [0]) := by decide +kernel
theorem bf80_18 : am_fetch (am_mth 80) 18 = some (.return_, 1, [], [0]) := by decide +kernel
theorem bk80_0 {w : am_Wd} {l0 : Nat} : am_run 80 0 [some (.ref l0)] [] w = (am_na w 1 (nI 4)).bind fun w' => am_run 80 8 [some (.ref l0)] (.ref w.2.1 :: [.ref l0]) w' := by
  refine (bu (ls'' := [some (.ref l0)]) (st' := [.ref l0]) bf80_0 bf80_1 rfl rfl).trans ?_
  refine (bu (ls'' := [some (.ref l0)]) (st' := []) bf80_1 bf80_4 rfl rfl).trans ?_
  refine (bu (ls'' := [some (.ref l0)]) (st' := [.ref l0]) bf80_4 bf80_5 rfl rfl).trans ?_
  refine (bu (ls'' := [some (.ref l0)]) (st' := [.int (nI 4), .ref l0]) bf80_5 bf80_6 rfl rfl).trans ?_
  exact bh bf80_6 bf80_8 rfl (bge_na) rfl
theorem bk80_8 {w : am_Wd} {l0 : Nat} {s0 : Nat} {s1 : Nat} : am_run 80 8 [some (.ref l0)] [.ref s0, .ref s1] w = (am_pf w s1 7 0 (.ref s0)).bind fun w' => am_run 80 11 [some (.ref l0)] [] w' := by
  exact bh bf80_8 bf80_11 rfl (bge_pf) rfl
theorem bk80_11 {w : am_Wd} {l0 : Nat} : am_run 80 11 [some (.ref l0)] [] w = (am_x 12 [] w).bind fun r => bct r fun v w' => am_run 80 15 [none] (v.toList ++ [.ref l0]) w' := by
  refine (bu (ls'' := [none]) (st' := [.ref l0]) bf80_11 bf80_12 rfl rfl).trans ?_
  exact bkS bf80_12 bf80_15 rfl (by decide +kernel) (Nat.le_of_ble_eq_true rfl) rfl (bhd rfl)
theorem bk80_15 {w : am_Wd} {s0 : Nat} {s1 : Nat} : am_run 80 15 [none] [.ref s0, .ref s1] w = (am_pf w s1 7 1 (.ref s0)).bind fun w' => am_run 80 18 [none] [] w' := by
  exact bh bf80_15 bf80_18 rfl (bge_pf) rfl
theorem bk80_18 {w : am_Wd}  : am_run 80 18 [none] [] w = some (.inl none, w) := by
  exact am_e2 bf80_18 rfl (am_ge_rf w)
theorem bf81_0 : am_fetch (am_mth 81) 0 = some (.aload_n 0, 1, [], []) := by decide +kernel
theorem bf81_1 : am_fetch (am_mth 81) 1 = some (.getfield 9, 3, [0, 7, 0, 583], []) := by decide +kernel
theorem bf81_4 : am_fetch (am_mth 81) 4 = some (.iload_n 2, 1, [], []) := by decide +kernel
theorem bf81_5 : am_fetch (am_mth 81) 5 = some (.laload, 1, [], []) := by decide +kernel
theorem bf81_6 : am_fetch (am_mth 81) 6 = some (.iload_n 1, 1, [], []) := by decide +kernel
theorem bf81_7 : am_fetch (am_mth 81) 7 = some (.invokestatic 24, 3, [0, 11, 2, 177, 178, 57], []) := by decide +kernel
theorem bf81_10 : am_fetch (am_mth 81) 10 = some (.ifCond .eq 5, 3, [], []) := by decide +kernel
theorem bf81_13 : am_fetch (am_mth 81) 13 = some (.iconst 1, 1, [], [0, 1, 2]) := by decide +kernel
theorem bf81_14 : am_fetch (am_mth 81) 14 = some (.ireturn, 1, [0], [0, 1, 2]) := by decide +kernel
theorem bf81_15 : am_fetch (am_mth 81) 15 = some (.aload_n 0, 1, [], []) := by decide +kernel
theorem bf81_16 : am_fetch (am_mth 81) 16 = some (.getfield 21, 3, [0, 7, 1, 584], [0]) := by decide +kernel
theorem bf81_19 : am_fetch (am_mth 81) 19 = some (.iload_n 2, 1, [], [0]) := by decide +kernel
theorem bf81_20 : am_fetch (am_mth 81) 20 = some (.laload, 1, [], [0, 2]) := by decide +kernel
theorem bf81_21 : am_fetch (am_mth 81) 21 = some (.iload_n 1, 1, [], [0, 2]) := by decide +kernel
theorem bf81_22 : am_fetch (am_mth 81) 22 = some (.invokestatic 24, 3, [0, 11, 2, 177, 178, 57], [0, 1, 2]) := by decide +kernel
theorem bf81_25 : am_fetch (am_mth 81) 25 = some (.ifCond .eq 7, 3, [], [0, 1, 2]) := by decide +kernel
theorem bf81_28 : am_fetch (am_mth 81) 28 = some (.iconst 2, 1, [], [0, 1, 2]) := by decide +kernel
theorem bf81_29 : am_fetch (am_mth 81) 29 = some (.goto 4, 3, [], [0, 1, 2]) := by decide +kernel
theorem bf81_32 : am_fetch (am_mth 81) 32 = some (.iconst 0, 1, [], [0, 1, 2]) := by decide +kernel
theorem bf81_33 : am_fetch (am_mth 81) 33 = some (.ireturn, 1, [0], [0, 1, 2]) := by decide +kernel
theorem bk81_0 {w : am_Wd} {l0 : Nat} {l1 : Int32} {l2 : Int32} : am_run 81 0 [some (.ref l0), some (.int l1), some (.int l2)] [] w = (am_gf w l0 7 0).bind fun v => am_run 81 4 [some (.ref l0), some (.int l1), some (.int l2)] (v :: []) w := by
  refine (bu (ls'' := [some (.ref l0), some (.int l1), some (.int l2)]) (st' := [.ref l0]) bf81_0 bf81_1 rfl rfl).trans ?_
  exact bh bf81_1 bf81_4 rfl (fun _ _ => am_ge_rf w) rfl
theorem bk81_4 {w : am_Wd} {l0 : Nat} {l1 : Int32} {l2 : Int32} {s0 : Nat} : am_run 81 4 [some (.ref l0), some (.int l1), some (.int l2)] [.ref s0] w = (am_rl w s0 l2).bind fun v => am_run 81 6 [some (.ref l0), some (.int l1), some (.int l2)] (.long v :: []) w := by
  refine (bu (ls'' := [some (.ref l0), some (.int l1), some (.int l2)]) (st' := [.int l2, .ref s0]) bf81_4 bf81_5 rfl rfl).trans ?_
  exact bh bf81_5 bf81_6 rfl (fun _ _ => am_ge_rf w) rfl
theorem bk81_6 {w : am_Wd} {l0 : Nat} {l1 : Int32} {l2 : Int32} {s0 : Int64} : am_run 81 6 [some (.ref l0), some (.int l1), some (.int l2)] [.long s0] w = (am_x 11 [.long s0, .int l1] w).bind fun r => bct r fun v w' => am_run 81 10 [some (.ref l0), some (.int l1), some (.int l2)] (v.toList ++ []) w' := by
  refine (bu (ls'' := [some (.ref l0), some (.int l1), some (.int l2)]) (st' := [.int l1, .long s0]) bf81_6 bf81_7 rfl rfl).trans ?_
  exact bkS bf81_7 bf81_10 rfl (by decide +kernel) (Nat.le_of_ble_eq_true rfl) rfl (bhd rfl)
theorem bk81_10 {w : am_Wd} {l0 : Nat} {l1 : Int32} {l2 : Int32} {s0 : Int32} : am_run 81 10 [some (.ref l0), some (.int l1), some (.int l2)] [.int s0] w = if s0 = nI 0 then am_run 81 15 [some (.ref l0), some (.int l1), some (.int l2)] [] w else am_run 81 13 [none, none, none] [] w := by
  exact bifc bf81_10 rfl bf81_15 bf81_13 rfl rfl rfl
theorem bk81_15 {w : am_Wd} {l0 : Nat} {l1 : Int32} {l2 : Int32} : am_run 81 15 [some (.ref l0), some (.int l1), some (.int l2)] [] w = (am_gf w l0 7 1).bind fun v => am_run 81 19 [none, some (.int l1), some (.int l2)] (v :: []) w := by
  refine (bu (ls'' := [none, some (.int l1), some (.int l2)]) (st' := [.ref l0]) bf81_15 bf81_16 rfl rfl).trans ?_
  exact bh bf81_16 bf81_19 rfl (fun _ _ => am_ge_rf w) rfl
theorem bk81_13 {w : am_Wd}  : am_run 81 13 [none, none, none] [] w = some (.inl (some (.int (nI 1))), w) := by
  refine (bu (ls'' := [none, none, none]) (st' := [.int (nI 1)]) bf81_13 bf81_14 rfl rfl).trans ?_
  exact am_e2 bf81_14 rfl (am_ge_rf w)
theorem bk81_19 {w : am_Wd} {l1 : Int32} {l2 : Int32} {s0 : Nat} : am_run 81 19 [none, some (.int l1), some (.int l2)] [.ref s0] w = (am_rl w s0 l2).bind fun v => am_run 81 21 [none, some (.int l1), none] (.long v :: []) w := by
  refine (bu (ls'' := [none, some (.int l1), none]) (st' := [.int l2, .ref s0]) bf81_19 bf81_20 rfl rfl).trans ?_
  exact bh bf81_20 bf81_21 rfl (fun _ _ => am_ge_rf w) rfl
theorem bk81_21 {w : am_Wd} {l1 : Int32} {s0 : Int64} : am_run 81 21 [none, some (.int l1), none] [.long s0] w = (am_x 11 [.long s0, .int l1] w).bind fun r => bct r fun v w' => am_run 81 25 [none, none, none] (v.toList ++ []) w' := by
  refine (bu (ls'' := [none, none, none]) (st' := [.int l1, .long s0]) bf81_21 bf81_22 rfl rfl).trans ?_
  exact bkS bf81_22 bf81_25 rfl (by decide +kernel) (Nat.le_of_ble_eq_true rfl) rfl (bhd rfl)
theorem bk81_25 {w : am_Wd} {s0 : Int32} : am_run 81 25 [none, none, none] [.int s0] w = if s0 = nI 0 then am_run 81 32 [none, none, none] [] w else am_run 81 28 [none, none, none] [] w := by
  exact bifc bf81_25 rfl bf81_32 bf81_28 rfl rfl rfl
theorem bk81_32 {w : am_Wd}  : am_run 81 32 [none, none, none] [] w = am_run 81 33 [none, none, none] [.int (nI 0)] w := by
  refine (bu (ls'' := [none, none, none]) (st' := [.int (nI 0)]) bf81_32 bf81_33 rfl rfl).trans ?_
  rfl
theorem bk81_28 {w : am_Wd}  : am_run 81 28 [none, none, none] [] w = am_run 81 33 [none, none, none] [.int (nI 2)] w := by
  refine (bu (ls'' := [none, none, none]) (st' := [.int (nI 2)]) bf81_28 bf81_29 rfl rfl).trans ?_
  refine (bu (ls'' := [none, none, none]) (st' := [.int (nI 2)]) bf81_29 bf81_33 rfl rfl).trans ?_
  rfl
theorem bk81_33 {w : am_Wd} {s0 : Int32} : am_run 81 33 [none, none, none] [.int s0] w = some (.inl (some (.int s0)), w) := by
  exact am_e2 bf81_33 rfl (am_ge_rf w)
theorem bf82_0 : am_fetch (am_mth 82) 0 = some (.iload_n 1, 1, [], [4]) := by decide +kernel
theorem bf82_1 : am_fetch (am_mth 82) 1 = some (.iload_n 2, 1, [], [4]) := by decide +kernel
theorem bf82_2 : am_fetch (am_mth 82) 2 = some (.invokestatic 28, 3, [0, 13, 2, 699, 181, 57], [4]) := by decide +kernel
theorem bf82_5 : am_fetch (am_mth 82) 5 = some (.istore 4, 2, [], [4]) := by decide +kernel
theorem bf82_7 : am_fetch (am_mth 82) 7 = some (.iload 4, 2, [], []) := by decide +kernel
theorem bf82_9 : am_fetch (am_mth 82) 9 = some (.iconst (-1), 1, [], []) := by decide +kernel
theorem bf82_10 : am_fetch (am_mth 82) 10 = some (.if_icmp .eq 22, 3, [], []) := by decide +kernel
theorem bf82_13 : am_fetch (am_mth 82) 13 = some (.aload_n 0, 1, [], []) := by decide +kernel
theorem bf82_14 : am_fetch (am_mth 82) 14 = some (.iload_n 1, 1, [], []) := by decide +kernel
theorem bf82_15 : am_fetch (am_mth 82) 15 = some (.iload_n 2, 1, [], [1]) := by decide +kernel
theorem bf82_16 : am_fetch (am_mth 82) 16 = some (.iload_n 3, 1, [], [1]) := by decide +kernel
theorem bf82_17 : am_fetch (am_mth 82) 17 = some (.invokevirtual 32, 3, [0, 20, 3, 7, 700, 702, 13, 64], [1]) := by decide +kernel
theorem bf82_20 : am_fetch (am_mth 82) 20 = some (.aload_n 0, 1, [], [1]) := by decide +kernel
theorem bf82_21 : am_fetch (am_mth 82) 21 = some (.iload 4, 2, [], [0, 1]) := by decide +kernel
theorem bf82_23 : am_fetch (am_mth 82) 23 = some (.iload_n 2, 1, [], [0, 1, 4]) := by decide +kernel
theorem bf82_24 : am_fetch (am_mth 82) 24 = some (.iconst 2, 1, [], [0, 1, 2, 4]) := by decide +kernel
theorem bf82_25 : am_fetch (am_mth 82) 25 = some (.iadd, 1, [], [0, 1, 2, 4]) := by decide +kernel
theorem bf82_26 : am_fetch (am_mth 82) 26 = some (.iconst 3, 1, [], [0, 1, 2, 4]) := by decide +kernel
theorem bf82_27 : am_fetch (am_mth 82) 27 = some (.iand, 1, [], [0, 1, 2, 4]) := by decide +kernel
theorem bf82_28 : am_fetch (am_mth 82) 28 = some (.iload_n 3, 1, [], [0, 1, 2, 4]) := by decide +kernel
theorem bf82_29 : am_fetch (am_mth 82) 29 = some (.invokevirtual 32, 3, [0, 20, 3, 7, 700, 702, 13, 64], [0, 1, 2, 3, 4]) := by decide +kernel
theorem bf82_32 : am_fetch (am_mth 82) 32 = some (.return_, 1, [], [0, 1, 2, 3, 4]) := by decide +kernel
theorem bk82_0 {w : am_Wd} {l0 : Nat} {l1 : Int32} {l2 : Int32} {l3 : Int32} : am_run 82 0 [some (.ref l0), some (.int l1), some (.int l2), some (.int l3), none] [] w = (am_x 13 [.int l1, .int l2] w).bind fun r => bct r fun v w' => am_run 82 5 [some (.ref l0), some (.int l1), some (.int l2), some (.int l3), none] (v.toList ++ []) w' := by
  refine (bu (ls'' := [some (.ref l0), some (.int l1), some (.int l2), some (.int l3), none]) (st' := [.int l1]) bf82_0 bf82_1 rfl rfl).trans ?_
  refine (bu (ls'' := [some (.ref l0), some (.int l1), some (.int l2), some (.int l3), none]) (st' := [.int l2, .int l1]) bf82_1 bf82_2 rfl rfl).trans ?_
  exact bkS bf82_2 bf82_5 rfl (by decide +kernel) (Nat.le_of_ble_eq_true rfl) rfl (bhd rfl)
theorem bk82_5 {w : am_Wd} {l0 : Nat} {l1 : Int32} {l2 : Int32} {l3 : Int32} {s0 : Int32} : am_run 82 5 [some (.ref l0), some (.int l1), some (.int l2), some (.int l3), none] [.int s0] w = if s0 = (-1 : Int32) then am_run 82 32 [none, none, none, none, none] [] w else am_run 82 13 [some (.ref l0), some (.int l1), some (.int l2), some (.int l3), some (.int s0)] [] w := by
  refine (bu (ls'' := [some (.ref l0), some (.int l1), some (.int l2), some (.int l3), some (.int s0)]) (st' := []) bf82_5 bf82_7 rfl rfl).trans ?_
  refine (bu (ls'' := [some (.ref l0), some (.int l1), some (.int l2), some (.int l3), some (.int s0)]) (st' := [.int s0]) bf82_7 bf82_9 rfl rfl).trans ?_
  refine (bu (ls'' := [some (.ref l0), some (.int l1), some (.int l2), some (.int l3), some (.int s0)]) (st' := [.int (-1 : Int32), .int s0]) bf82_9 bf82_10 rfl rfl).trans ?_
  exact bic bf82_10 rfl bf82_32 bf82_13 rfl rfl rfl
theorem bk82_32 {w : am_Wd}  : am_run 82 32 [none, none, none, none, none] [] w = some (.inl none, w) := by
  exact am_e2 bf82_32 rfl (am_ge_rf w)
theorem bk82_13 {w : am_Wd} {l0 : Nat} {l1 : Int32} {l2 : Int32} {l3 : Int32} {l4 : Int32} : am_run 82 13 [some (.ref l0), some (.int l1), some (.int l2), some (.int l3), some (.int l4)] [] w = (am_kf w l0 7).bind fun _ => (am_x 20 [.ref l0, .int l1, .int l2, .int l3] w).bind fun r => bct r fun v w' => am_run 82 20 [some (.ref l0), none, some (.int l2), some (.int l3), some (.int l4)] (v.toList ++ []) w' := by
  refine (bu (ls'' := [some (.ref l0), some (.int l1), some (.int l2), some (.int l3), some (.int l4)]) (st' := [.ref l0]) bf82_13 bf82_14 rfl rfl).trans ?_
  refine (bu (ls'' := [some (.ref l0), none, some (.int l2), some (.int l3), some (.int l4)]) (st' := [.int l1, .ref l0]) bf82_14 bf82_15 rfl rfl).trans ?_
  refine (bu (ls'' := [some (.ref l0), none, some (.int l2), some (.int l3), some (.int l4)]) (st' := [.int l2, .int l1, .ref l0]) bf82_15 bf82_16 rfl rfl).trans ?_
  refine (bu (ls'' := [some (.ref l0), none, some (.int l2), some (.int l3), some (.int l4)]) (st' := [.int l3, .int l2, .int l1, .ref l0]) bf82_16 bf82_17 rfl rfl).trans ?_
  exact bkV bf82_17 bf82_20 rfl (by decide +kernel) (Nat.le_of_ble_eq_true rfl) rfl (bhd rfl)
theorem bk82_20 {w : am_Wd} {l0 : Nat} {l2 : Int32} {l3 : Int32} {l4 : Int32} : am_run 82 20 [some (.ref l0), none, some (.int l2), some (.int l3), some (.int l4)] [] w = (am_kf w l0 7).bind fun _ => (am_x 20 [.ref l0, .int l4, .int ((l2 + (nI 2)) &&& (nI 3)), .int l3] w).bind fun r => bct r fun v w' => am_run 82 32 [none, none, none, none, none] (v.toList ++ []) w' := by
  refine (bu (ls'' := [none, none, some (.int l2), some (.int l3), some (.int l4)]) (st' := [.ref l0]) bf82_20 bf82_21 rfl rfl).trans ?_
  refine (bu (ls'' := [none, none, some (.int l2), some (.int l3), none]) (st' := [.int l4, .ref l0]) bf82_21 bf82_23 rfl rfl).trans ?_
  refine (bu (ls'' := [none, none, none, some (.int l3), none]) (st' := [.int l2, .int l4, .ref l0]) bf82_23 bf82_24 rfl rfl).trans ?_
  refine (bu (ls'' := [none, none, none, some (.int l3), none]) (st' := [.int (nI 2), .int l2, .int l4, .ref l0]) bf82_24 bf82_25 rfl rfl).trans ?_
  refine (bu (ls'' := [none, none, none, some (.int l3), none]) (st' := [.int (l2 + (nI 2)), .int l4, .ref l0]) bf82_25 bf82_26 rfl rfl).trans ?_
  refine (bu (ls'' := [none, none, none, some (.int l3), none]) (st' := [.int (nI 3), .int (l2 + (nI 2)), .int l4, .ref l0]) bf82_26 bf82_27 rfl rfl).trans ?_
  refine (bu (ls'' := [none, none, none, some (.int l3), none]) (st' := [.int ((l2 + (nI 2)) &&& (nI 3)), .int l4, .ref l0]) bf82_27 bf82_28 rfl rfl).trans ?_
  refine (bu (ls'' := [none, none, none, none, none]) (st' := [.int l3, .int ((l2 + (nI 2)) &&& (nI 3)), .int l4, .ref l0]) bf82_28 bf82_29 rfl rfl).trans ?_
  exact bkV bf82_29 bf82_32 rfl (by decide +kernel) (Nat.le_of_ble_eq_true rfl) rfl (bhd rfl)
theorem bf83_0 : am_fetch (am_mth 83) 0 = some (.aload_n 0, 1, [], []) := by decide +kernel
theorem bf83_1 : am_fetch (am_mth 83) 1 = some (.getfield 9, 3, [0, 7, 0, 583], []) := by decide +kernel
theorem bf83_4 : am_fetch (am_mth 83) 4 = some (.iconst 1, 1, [], []) := by decide +kernel
theorem bf83_5 : am_fetch (am_mth 83) 5 = some (.laload, 1, [], []) := by decide +kernel
theorem bf83_6 : am_fetch (am_mth 83) 6 = some (.invokestatic 40, 3, [0, 50, 1, 206, 156, 61], []) := by decide +kernel
theorem bf83_9 : am_fetch (am_mth 83) 9 = some (.aload_n 0, 1, [], []) := by decide +kernel
theorem bf83_10 : am_fetch (am_mth 83) 10 = some (.getfield 9, 3, [0, 7, 0, 583], [0]) := by decide +kernel
theorem bf83_13 : am_fetch (am_mth 83) 13 = some (.iconst 2, 1, [], [0]) := by decide +kernel
theorem bf83_14 : am_fetch (am_mth 83) 14 = some (.laload, 1, [], [0]) := by decide +kernel
theorem bf83_15 : am_fetch (am_mth 83) 15 = some (.invokestatic 40, 3, [0, 50, 1, 206, 156, 61], [0]) := by decide +kernel
theorem bf83_18 : am_fetch (am_mth 83) 18 = some (.iadd, 1, [], [0]) := by decide +kernel
theorem bf83_19 : am_fetch (am_mth 83) 19 = some (.ireturn, 1, [0], [0]) := by decide +kernel
theorem bk83_0 {w : am_Wd} {l0 : Nat} : am_run 83 0 [some (.ref l0)] [] w = (am_gf w l0 7 0).bind fun v => am_run 83 4 [some (.ref l0)] (v :: []) w := by
  refine (bu (ls'' := [some (.ref l0)]) (st' := [.ref l0]) bf83_0 bf83_1 rfl rfl).trans ?_
  exact bh bf83_1 bf83_4 rfl (fun _ _ => am_ge_rf w) rfl
theorem bk83_4 {w : am_Wd} {l0 : Nat} {s0 : Nat} : am_run 83 4 [some (.ref l0)] [.ref s0] w = (am_rl w s0 (nI 1)).bind fun v => am_run 83 6 [some (.ref l0)] (.long v :: []) w := by
  refine (bu (ls'' := [some (.ref l0)]) (st' := [.int (nI 1), .ref s0]) bf83_4 bf83_5 rfl rfl).trans ?_
  exact bh bf83_5 bf83_6 rfl (fun _ _ => am_ge_rf w) rfl
theorem bk83_6 {w : am_Wd} {l0 : Nat} {s0 : Int64} : am_run 83 6 [some (.ref l0)] [.long s0] w = (am_x 50 [.long s0] w).bind fun r => bct r fun v w' => am_run 83 9 [some (.ref l0)] (v.toList ++ []) w' := by
  exact bkS bf83_6 bf83_9 rfl (by decide +kernel) (Nat.le_of_ble_eq_true rfl) rfl (bhd rfl)
theorem bk83_9 {w : am_Wd} {l0 : Nat} {s0 : Int32} : am_run 83 9 [some (.ref l0)] [.int s0] w = (am_gf w l0 7 0).bind fun v => am_run 83 13 [none] (v :: [.int s0]) w := by
  refine (bu (ls'' := [none]) (st' := [.ref l0, .int s0]) bf83_9 bf83_10 rfl rfl).trans ?_
  exact bh bf83_10 bf83_13 rfl (fun _ _ => am_ge_rf w) rfl
theorem bk83_13 {w : am_Wd} {s0 : Nat} {s1 : Int32} : am_run 83 13 [none] [.ref s0, .int s1] w = (am_rl w s0 (nI 2)).bind fun v => am_run 83 15 [none] (.long v :: [.int s1]) w := by
  refine (bu (ls'' := [none]) (st' := [.int (nI 2), .ref s0, .int s1]) bf83_13 bf83_14 rfl rfl).trans ?_
  exact bh bf83_14 bf83_15 rfl (fun _ _ => am_ge_rf w) rfl
theorem bk83_15 {w : am_Wd} {s0 : Int64} {s1 : Int32} : am_run 83 15 [none] [.long s0, .int s1] w = (am_x 50 [.long s0] w).bind fun r => bct r fun v w' => am_run 83 18 [none] (v.toList ++ [.int s1]) w' := by
  exact bkS bf83_15 bf83_18 rfl (by decide +kernel) (Nat.le_of_ble_eq_true rfl) rfl (bhd rfl)
theorem bk83_18 {w : am_Wd} {s0 : Int32} {s1 : Int32} : am_run 83 18 [none] [.int s0, .int s1] w = some (.inl (some (.int (s1 + s0))), w) := by
  refine (bu (ls'' := [none]) (st' := [.int (s1 + s0)]) bf83_18 bf83_19 rfl rfl).trans ?_
  exact am_e2 bf83_19 rfl (am_ge_rf w)
theorem bf84_0 : am_fetch (am_mth 84) 0 = some (.aload_n 0, 1, [], []) := by decide +kernel
theorem bf84_1 : am_fetch (am_mth 84) 1 = some (.getfield 21, 3, [0, 7, 1, 584], []) := by decide +kernel
theorem bf84_4 : am_fetch (am_mth 84) 4 = some (.iconst 1, 1, [], []) := by decide +kernel
theorem bf84_5 : am_fetch (am_mth 84) 5 = some (.laload, 1, [], []) := by decide +kernel
theorem bf84_6 : am_fetch (am_mth 84) 6 = some (.invokestatic 40, 3, [0, 50, 1, 206, 156, 61], []) := by decide +kernel
theorem bf84_9 : am_fetch (am_mth 84) 9 = some (.aload_n 0, 1, [], []) := by decide +kernel
theorem bf84_10 : am_fetch (am_mth 84) 10 = some (.getfield 21, 3, [0, 7, 1, 584], [0]) := by decide +kernel
theorem bf84_13 : am_fetch (am_mth 84) 13 = some (.iconst 2, 1, [], [0]) := by decide +kernel
theorem bf84_14 : am_fetch (am_mth 84) 14 = some (.laload, 1, [], [0]) := by decide +kernel
theorem bf84_15 : am_fetch (am_mth 84) 15 = some (.invokestatic 40, 3, [0, 50, 1, 206, 156, 61], [0]) := by decide +kernel
theorem bf84_18 : am_fetch (am_mth 84) 18 = some (.iadd, 1, [], [0]) := by decide +kernel
theorem bf84_19 : am_fetch (am_mth 84) 19 = some (.bipush 12, 2, [], [0]) := by decide +kernel
theorem bf84_21 : am_fetch (am_mth 84) 21 = some (.isub, 1, [], [0]) := by decide +kernel
theorem bf84_22 : am_fetch (am_mth 84) 22 = some (.ireturn, 1, [0], [0]) := by decide +kernel
theorem bk84_0 {w : am_Wd} {l0 : Nat} : am_run 84 0 [some (.ref l0)] [] w = (am_gf w l0 7 1).bind fun v => am_run 84 4 [some (.ref l0)] (v :: []) w := by
  refine (bu (ls'' := [some (.ref l0)]) (st' := [.ref l0]) bf84_0 bf84_1 rfl rfl).trans ?_
  exact bh bf84_1 bf84_4 rfl (fun _ _ => am_ge_rf w) rfl
theorem bk84_4 {w : am_Wd} {l0 : Nat} {s0 : Nat} : am_run 84 4 [some (.ref l0)] [.ref s0] w = (am_rl w s0 (nI 1)).bind fun v => am_run 84 6 [some (.ref l0)] (.long v :: []) w := by
  refine (bu (ls'' := [some (.ref l0)]) (st' := [.int (nI 1), .ref s0]) bf84_4 bf84_5 rfl rfl).trans ?_
  exact bh bf84_5 bf84_6 rfl (fun _ _ => am_ge_rf w) rfl
theorem bk84_6 {w : am_Wd} {l0 : Nat} {s0 : Int64} : am_run 84 6 [some (.ref l0)] [.long s0] w = (am_x 50 [.long s0] w).bind fun r => bct r fun v w' => am_run 84 9 [some (.ref l0)] (v.toList ++ []) w' := by
  exact bkS bf84_6 bf84_9 rfl (by decide +kernel) (Nat.le_of_ble_eq_true rfl) rfl (bhd rfl)
theorem bk84_9 {w : am_Wd} {l0 : Nat} {s0 : Int32} : am_run 84 9 [some (.ref l0)] [.int s0] w = (am_gf w l0 7 1).bind fun v => am_run 84 13 [none] (v :: [.int s0]) w := by
  refine (bu (ls'' := [none]) (st' := [.ref l0, .int s0]) bf84_9 bf84_10 rfl rfl).trans ?_
  exact bh bf84_10 bf84_13 rfl (fun _ _ => am_ge_rf w) rfl
theorem bk84_13 {w : am_Wd} {s0 : Nat} {s1 : Int32} : am_run 84 13 [none] [.ref s0, .int s1] w = (am_rl w s0 (nI 2)).bind fun v => am_run 84 15 [none] (.long v :: [.int s1]) w := by
  refine (bu (ls'' := [none]) (st' := [.int (nI 2), .ref s0, .int s1]) bf84_13 bf84_14 rfl rfl).trans ?_
  exact bh bf84_14 bf84_15 rfl (fun _ _ => am_ge_rf w) rfl
theorem bk84_15 {w : am_Wd} {s0 : Int64} {s1 : Int32} : am_run 84 15 [none] [.long s0, .int s1] w = (am_x 50 [.long s0] w).bind fun r => bct r fun v w' => am_run 84 18 [none] (v.toList ++ [.int s1]) w' := by
  exact bkS bf84_15 bf84_18 rfl (by decide +kernel) (Nat.le_of_ble_eq_true rfl) rfl (bhd rfl)
theorem bk84_18 {w : am_Wd} {s0 : Int32} {s1 : Int32} : am_run 84 18 [none] [.int s0, .int s1] w = some (.inl (some (.int ((s1 + s0) - (nI 12)))), w) := by
  refine (bu (ls'' := [none]) (st' := [.int (s1 + s0)]) bf84_18 bf84_19 rfl rfl).trans ?_
  refine (bu (ls'' := [none]) (st' := [.int (nI 12), .int (s1 + s0)]) bf84_19 bf84_21 rfl rfl).trans ?_
  refine (bu (ls'' := [none]) (st' := [.int ((s1 + s0) - (nI 12))]) bf84_21 bf84_22 rfl rfl).trans ?_
  exact am_e2 bf84_22 rfl (am_ge_rf w)
theorem bf85_0 : am_fetch (am_mth 85) 0 = some (.aload_n 0, 1, [], []) := by decide +kernel
theorem bf85_1 : am_fetch (am_mth 85) 1 = some (.iconst 1, 1, [], []) := by decide +kernel
theorem bf85_2 : am_fetch (am_mth 85) 2 = some (.invokevirtual 46, 3, [0, 22, 1, 7, 412, 414, 6, 64], []) := by decide +kernel
theorem bf85_5 : am_fetch (am_mth 85) 5 = some (.invokestatic 40, 3, [0, 50, 1, 206, 156, 61], []) := by decide +kernel
theorem bf85_8 : am_fetch (am_mth 85) 8 = some (.aload_n 0, 1, [], []) := by decide +kernel
theorem bf85_9 : am_fetch (am_mth 85) 9 = some (.iconst 2, 1, [], [0]) := by decide +kernel
theorem bf85_10 : am_fetch (am_mth 85) 10 = some (.invokevirtual 46, 3, [0, 22, 1, 7, 412, 414, 6, 64], [0]) := by decide +kernel
theorem bf85_13 : am_fetch (am_mth 85) 13 = some (.invokestatic 40, 3, [0, 50, 1, 206, 156, 61], [0]) := by decide +kernel
theorem bf85_16 : am_fetch (am_mth 85) 16 = some (.iadd, 1, [], [0]) := by decide +kernel
theorem bf85_17 : am_fetch (am_mth 85) 17 = some (.ireturn, 1, [0], [0]) := by decide +kernel
theorem bk85_0 {w : am_Wd} {l0 : Nat} : am_run 85 0 [some (.ref l0)] [] w = (am_kf w l0 7).bind fun _ => (am_x 22 [.ref l0, .int (nI 1)] w).bind fun r => bct r fun v w' => am_run 85 5 [some (.ref l0)] (v.toList ++ []) w' := by
  refine (bu (ls'' := [some (.ref l0)]) (st' := [.ref l0]) bf85_0 bf85_1 rfl rfl).trans ?_
  refine (bu (ls'' := [some (.ref l0)]) (st' := [.int (nI 1), .ref l0]) bf85_1 bf85_2 rfl rfl).trans ?_
  exact bkV bf85_2 bf85_5 rfl (by decide +kernel) (Nat.le_of_ble_eq_true rfl) rfl (bhd rfl)
theorem bk85_5 {w : am_Wd} {l0 : Nat} {s0 : Int64} : am_run 85 5 [some (.ref l0)] [.long s0] w = (am_x 50 [.long s0] w).bind fun r => bct r fun v w' => am_run 85 8 [some (.ref l0)] (v.toList ++ []) w' := by
  exact bkS bf85_5 bf85_8 rfl (by decide +kernel) (Nat.le_of_ble_eq_true rfl) rfl (bhd rfl)
theorem bk85_8 {w : am_Wd} {l0 : Nat} {s0 : Int32} : am_run 85 8 [some (.ref l0)] [.int s0] w = (am_kf w l0 7).bind fun _ => (am_x 22 [.ref l0, .int (nI 2)] w).bind fun r => bct r fun v w' => am_run 85 13 [none] (v.toList ++ [.int s0]) w' := by
  refine (bu (ls'' := [none]) (st' := [.ref l0, .int s0]) bf85_8 bf85_9 rfl rfl).trans ?_
  refine (bu (ls'' := [none]) (st' := [.int (nI 2), .ref l0, .int s0]) bf85_9 bf85_10 rfl rfl).trans ?_
  exact bkV bf85_10 bf85_13 rfl (by decide +kernel) (Nat.le_of_ble_eq_true rfl) rfl (bhd rfl)
theorem bk85_13 {w : am_Wd} {s0 : Int64} {s1 : Int32} : am_run 85 13 [none] [.long s0, .int s1] w = (am_x 50 [.long s0] w).bind fun r => bct r fun v w' => am_run 85 16 [none] (v.toList ++ [.int s1]) w' := by
  exact bkS bf85_13 bf85_16 rfl (by decide +kernel) (Nat.le_of_ble_eq_true rfl) rfl (bhd rfl)
theorem bk85_16 {w : am_Wd} {s0 : Int32} {s1 : Int32} : am_run 85 16 [none] [.int s0, .int s1] w = some (.inl (some (.int (s1 + s0))), w) := by
  refine (bu (ls'' := [none]) (st' := [.int (s1 + s0)]) bf85_16 bf85_17 rfl rfl).trans ?_
  exact am_e2 bf85_17 rfl (am_ge_rf w)
theorem bf86_0 : am_fetch (am_mth 86) 0 = some (.iconst 0, 1, [], [2, 3]) := by decide +kernel
theorem bf86_1 : am_fetch (am_mth 86) 1 = some (.istore_n 2, 1, [], [2, 3]) := by decide +kernel
theorem bf86_2 : am_fetch (am_mth 86) 2 = some (.iconst 1, 1, [], [3]) := by decide +kernel
theorem bf86_3 : am_fetch (am_mth 86) 3 = some (.istore_n 3, 1, [], [3]) := by decide +kernel
theorem bf86_4 : am_fetch (am_mth 86) 4 = some (.iload_n 3, 1, [], []) := by decide +kernel
theorem bf86_5 : am_fetch (am_mth 86) 5 = some (.iconst 2, 1, [], []) := by decide +kernel
theorem bf86_6 : am_fetch (am_mth 86) 6 = some (.if_icmp .gt 47, 3, [], []) := by decide +kernel
theorem bf86_9 : am_fetch (am_mth 86) 9 = some (.iload_n 2, 1, [], []) := by decide +kernel
theorem bf86_10 : am_fetch (am_mth 86) 10 = some (.aload_n 0, 1, [], [2]) := by decide +kernel
theorem bf86_11 : am_fetch (am_mth 86) 11 = some (.getfield 9, 3, [0, 7, 0, 583], [2]) := by decide +kernel
theorem bf86_14 : am_fetch (am_mth 86) 14 = some (.iload_n 3, 1, [], [2]) := by decide +kernel
theorem bf86_15 : am_fetch (am_mth 86) 15 = some (.laload, 1, [], [2]) := by decide +kernel
theorem bf86_16 : am_fetch (am_mth 86) 16 = some (.aload_n 1, 1, [], [2]) := by decide +kernel
theorem bf86_17 : am_fetch (am_mth 86) 17 = some (.getfield 21, 3, [0, 7, 1, 584], [2]) := by decide +kernel
theorem bf86_20 : am_fetch (am_mth 86) 20 = some (.iload_n 3, 1, [], [2]) := by decide +kernel
theorem bf86_21 : am_fetch (am_mth 86) 21 = some (.laload, 1, [], [2]) := by decide +kernel
theorem bf86_22 : am_fetch (am_mth 86) 22 = some (.land, 1, [], [2]) := by decide +kernel
theorem bf86_23 : am_fetch (am_mth 86) 23 = some (.invokestatic 40, 3, [0, 50, 1, 206, 156, 61], [2]) := by decide +kernel
theorem bf86_26 : am_fetch (am_mth 86) 26 = some (.iadd, 1, [], [2]) := by decide +kernel
theorem bf86_27 : am_fetch (am_mth 86) 27 = some (.istore_n 2, 1, [], [2]) := by decide +kernel
theorem bf86_28 : am_fetch (am_mth 86) 28 = some (.iload_n 2, 1, [], []) := by decide +kernel
theorem bf86_29 : am_fetch (am_mth 86) 29 = some (.aload_n 0, 1, [], [2]) := by decide +kernel
theorem bf86_30 : am_fetch (am_mth 86) 30 = some (.getfield 21, 3, [0, 7, 1, 584], [2]) := by decide +kernel
theorem bf86_33 : am_fetch (am_mth 86) 33 = some (.iload_n 3, 1, [], [2]) := by decide +kernel
theorem bf86_34 : am_fetch (am_mth 86) 34 = some (.laload, 1, [], [2]) := by decide +kernel
theorem bf86_35 : am_fetch (am_mth 86) 35 = some (.aload_n 1, 1, [], [2]) := by decide +kernel
theorem bf86_36 : am_fetch (am_mth 86) 36 = some (.getfield 9, 3, [0, 7, 0, 583], [2]) := by decide +kernel
theorem bf86_39 : am_fetch (am_mth 86) 39 = some (.iload_n 3, 1, [], [2]) := by decide +kernel
theorem bf86_40 : am_fetch (am_mth 86) 40 = some (.laload, 1, [], [2]) := by decide +kernel
theorem bf86_41 : am_fetch (am_mth 86) 41 = some (.land, 1, [], [2]) := by decide +kernel
theorem bf86_42 : am_fetch (am_mth 86) 42 = some (.invokestatic 40, 3, [0, 50, 1, 206, 156, 61], [2]) := by decide +kernel
theorem bf86_45 : am_fetch (am_mth 86) 45 = some (.iadd, 1, [], [2]) := by decide +kernel
theorem bf86_46 : am_fetch (am_mth 86) 46 = some (.istore_n 2, 1, [], [2]) := by decide +kernel
theorem bf86_47 : am_fetch (am_mth 86) 47 = some (.iinc 3 1, 3, [], []) := by decide +kernel
theorem bf86_50 : am_fetch (am_mth 86) 50 = some (.goto (-46), 3, [], []) := by decide +kernel
theorem bf86_53 : am_fetch (am_mth 86) 53 = some (.iload_n 2, 1, [], [0, 1, 3]) := by decide +kernel
theorem bf86_54 : am_fetch (am_mth 86) 54 = some (.ireturn, 1, [0], [0, 1, 2, 3]) := by decide +kernel
theorem bk86_0 {w : am_Wd} {l0 : Nat} {l1 : Nat} : am_run 86 0 [some (.ref l0), some (.ref l1), none, none] [] w = am_run 86 4 [some (.ref l0), some (.ref l1), some (.int (nI 0)), some (.int (nI 1))] [] w := by
  refine (bu (ls'' := [some (.ref l0), some (.ref l1), none, none]) (st' := [.int (nI 0)]) bf86_0 bf86_1 rfl rfl).trans ?_
  refine (bu (ls'' := [some (.ref l0), some (.ref l1), some (.int (nI 0)), none]) (st' := []) bf86_1 bf86_2 rfl rfl).trans ?_
  refine (bu (ls'' := [some (.ref l0), some (.ref l1), some (.int (nI 0)), none]) (st' := [.int (nI 1)]) bf86_2 bf86_3 rfl rfl).trans ?_
  refine (bu (ls'' := [some (.ref l0), some (.ref l1), some (.int (nI 0)), some (.int (nI 1))]) (st' := []) bf86_3 bf86_4 rfl rfl).trans ?_
  rfl
theorem bk86_4 {w : am_Wd} {l0 : Nat} {l1 : Nat} {l2 : Int32} {l3 : Int32} : am_run 86 4 [some (.ref l0), some (.ref l1), some (.int l2), some (.int l3)] [] w = if (nI 2) < l3 then am_run 86 53 [none, none, some (.int l2), none] [] w else am_run 86 9 [some (.ref l0), some (.ref l1), some (.int l2), some (.int l3)] [] w := by
  refine (bu (ls'' := [some (.ref l0), some (.ref l1), some (.int l2), some (.int l3)]) (st' := [.int l3]) bf86_4 bf86_5 rfl rfl).trans ?_
  refine (bu (ls'' := [some (.ref l0), some (.ref l1), some (.int l2), some (.int l3)]) (st' := [.int (nI 2), .int l3]) bf86_5 bf86_6 rfl rfl).trans ?_
  exact bic bf86_6 rfl bf86_53 bf86_9 rfl rfl rfl
theorem bk86_53 {w : am_Wd} {l2 : Int32} : am_run 86 53 [none, none, some (.int l2), none] [] w = some (.inl (some (.int l2)), w) := by
  refine (bu (ls'' := [none, none, none, none]) (st' := [.int l2]) bf86_53 bf86_54 rfl rfl).trans ?_
  exact am_e2 bf86_54 rfl (am_ge_rf w)
theorem bk86_9 {w : am_Wd} {l0 : Nat} {l1 : Nat} {l2 : Int32} {l3 : Int32} : am_run 86 9 [some (.ref l0), some (.ref l1), some (.int l2), some (.int l3)] [] w = (am_gf w l0 7 0).bind fun v => am_run 86 14 [some (.ref l0), some (.ref l1), none, some (.int l3)] (v :: [.int l2]) w := by
  refine (bu (ls'' := [some (.ref l0), some (.ref l1), none, some (.int l3)]) (st' := [.int l2]) bf86_9 bf86_10 rfl rfl).trans ?_
  refine (bu (ls'' := [some (.ref l0), some (.ref l1), none, some (.int l3)]) (st' := [.ref l0, .int l2]) bf86_10 bf86_11 rfl rfl).trans ?_
  exact bh bf86_11 bf86_14 rfl (fun _ _ => am_ge_rf w) rfl
theorem bk86_14 {w : am_Wd} {l0 : Nat} {l1 : Nat} {l3 : Int32} {s0 : Nat} {s1 : Int32} : am_run 86 14 [some (.ref l0), some (.ref l1), none, some (.int l3)] [.ref s0, .int s1] w = (am_rl w s0 l3).bind fun v => am_run 86 16 [some (.ref l0), some (.ref l1), none, some (.int l3)] (.long v :: [.int s1]) w := by
  refine (bu (ls'' := [some (.ref l0), some (.ref l1), none, some (.int l3)]) (st' := [.int l3, .ref s0, .int s1]) bf86_14 bf86_15 rfl rfl).trans ?_
  exact bh bf86_15 bf86_16 rfl (fun _ _ => am_ge_rf w) rfl
theorem bk86_16 {w : am_Wd} {l0 : Nat} {l1 : Nat} {l3 : Int32} {s0 : Int64} {s1 : Int32} : am_run 86 16 [some (.ref l0), some (.ref l1), none, some (.int l3)] [.long s0, .int s1] w = (am_gf w l1 7 1).bind fun v => am_run 86 20 [some (.ref l0), some (.ref l1), none, some (.int l3)] (v :: [.long s0, .int s1]) w := by
  refine (bu (ls'' := [some (.ref l0), some (.ref l1), none, some (.int l3)]) (st' := [.ref l1, .long s0, .int s1]) bf86_16 bf86_17 rfl rfl).trans ?_
  exact bh bf86_17 bf86_20 rfl (fun _ _ => am_ge_rf w) rfl
theorem bk86_20 {w : am_Wd} {l0 : Nat} {l1 : Nat} {l3 : Int32} {s0 : Nat} {s1 : Int64} {s2 : Int32} : am_run 86 20 [some (.ref l0), some (.ref l1), none, some (.int l3)] [.ref s0, .long s1, .int s2] w = (am_rl w s0 l3).bind fun v => am_run 86 22 [some (.ref l0), some (.ref l1), none, some (.int l3)] (.long v :: [.long s1, .int s2]) w := by
  refine (bu (ls'' := [some (.ref l0), some (.ref l1), none, some (.int l3)]) (st' := [.int l3, .ref s0, .long s1, .int s2]) bf86_20 bf86_21 rfl rfl).trans ?_
  exact bh bf86_21 bf86_22 rfl (fun _ _ => am_ge_rf w) rfl
theorem bk86_22 {w : am_Wd} {l0 : Nat} {l1 : Nat} {l3 : Int32} {s0 : Int64} {s1 : Int64} {s2 : Int32} : am_run 86 22 [some (.ref l0), some (.ref l1), none, some (.int l3)] [.long s0, .long s1, .int s2] w = (am_x 50 [.long (s1 &&& s0)] w).bind fun r => bct r fun v w' => am_run 86 26 [some (.ref l0), some (.ref l1), none, some (.int l3)] (v.toList ++ [.int s2]) w' := by
  refine (bu (ls'' := [some (.ref l0), some (.ref l1), none, some (.int l3)]) (st' := [.long (s1 &&& s0), .int s2]) bf86_22 bf86_23 rfl rfl).trans ?_
  exact bkS bf86_23 bf86_26 rfl (by decide +kernel) (Nat.le_of_ble_eq_true rfl) rfl (bhd rfl)
theorem bk86_26 {w : am_Wd} {l0 : Nat} {l1 : Nat} {l3 : Int32} {s0 : Int32} {s1 : Int32} : am_run 86 26 [some (.ref l0), some (.ref l1), none, some (.int l3)] [.int s0, .int s1] w = (am_gf w l0 7 1).bind fun v => am_run 86 33 [some (.ref l0), some (.ref l1), none, some (.int l3)] (v :: [.int (s1 + s0)]) w := by
  refine (bu (ls'' := [some (.ref l0), some (.ref l1), none, some (.int l3)]) (st' := [.int (s1 + s0)]) bf86_26 bf86_27 rfl rfl).trans ?_
  refine (bu (ls'' := [some (.ref l0), some (.ref l1), some (.int (s1 + s0)), some (.int l3)]) (st' := []) bf86_27 bf86_28 rfl rfl).trans ?_
  refine (bu (ls'' := [some (.ref l0), some (.ref l1), none, some (.int l3)]) (st' := [.int (s1 + s0)]) bf86_28 bf86_29 rfl rfl).trans ?_
  refine (bu (ls'' := [some (.ref l0), some (.ref l1), none, some (.int l3)]) (st' := [.ref l0, .int (s1 + s0)]) bf86_29 bf86_30 rfl rfl).trans ?_
  exact bh bf86_30 bf86_33 rfl (fun _ _ => am_ge_rf w) rfl
theorem bk86_33 {w : am_Wd} {l0 : Nat} {l1 : Nat} {l3 : Int32} {s0 : Nat} {s1 : Int32} : am_run 86 33 [some (.ref l0), some (.ref l1), none, some (.int l3)] [.ref s0, .int s1] w = (am_rl w s0 l3).bind fun v => am_run 86 35 [some (.ref l0), some (.ref l1), none, some (.int l3)] (.long v :: [.int s1]) w := by
  refine (bu (ls'' := [some (.ref l0), some (.ref l1), none, some (.int l3)]) (st' := [.int l3, .ref s0, .int s1]) bf86_33 bf86_34 rfl rfl).trans ?_
  exact bh bf86_34 bf86_35 rfl (fun _ _ => am_ge_rf w) rfl
theorem bk86_35 {w : am_Wd} {l0 : Nat} {l1 : Nat} {l3 : Int32} {s0 : Int64} {s1 : Int32} : am_run 86 35 [some (.ref l0), some (.ref l1), none, some (.int l3)] [.long s0, .int s1] w = (am_gf w l1 7 0).bind fun v => am_run 86 39 [some (.ref l0), some (.ref l1), none, some (.int l3)] (v :: [.long s0, .int s1]) w := by
  refine (bu (ls'' := [some (.ref l0), some (.ref l1), none, some (.int l3)]) (st' := [.ref l1, .long s0, .int s1]) bf86_35 bf86_36 rfl rfl).trans ?_
  exact bh bf86_36 bf86_39 rfl (fun _ _ => am_ge_rf w) rfl
theorem bk86_39 {w : am_Wd} {l0 : Nat} {l1 : Nat} {l3 : Int32} {s0 : Nat} {s1 : Int64} {s2 : Int32} : am_run 86 39 [some (.ref l0), some (.ref l1), none, some (.int l3)] [.ref s0, .long s1, .int s2] w = (am_rl w s0 l3).bind fun v => am_run 86 41 [some (.ref l0), some (.ref l1), none, some (.int l3)] (.long v :: [.long s1, .int s2]) w := by
  refine (bu (ls'' := [some (.ref l0), some (.ref l1), none, some (.int l3)]) (st' := [.int l3, .ref s0, .long s1, .int s2]) bf86_39 bf86_40 rfl rfl).trans ?_
  exact bh bf86_40 bf86_41 rfl (fun _ _ => am_ge_rf w) rfl
theorem bk86_41 {w : am_Wd} {l0 : Nat} {l1 : Nat} {l3 : Int32} {s0 : Int64} {s1 : Int64} {s2 : Int32} : am_run 86 41 [some (.ref l0), some (.ref l1), none, some (.int l3)] [.long s0, .long s1, .int s2] w = (am_x 50 [.long (s1 &&& s0)] w).bind fun r => bct r fun v w' => am_run 86 45 [some (.ref l0), some (.ref l1), none, some (.int l3)] (v.toList ++ [.int s2]) w' := by
  refine (bu (ls'' := [some (.ref l0), some (.ref l1), none, some (.int l3)]) (st' := [.long (s1 &&& s0), .int s2]) bf86_41 bf86_42 rfl rfl).trans ?_
  exact bkS bf86_42 bf86_45 rfl (by decide +kernel) (Nat.le_of_ble_eq_true rfl) rfl (bhd rfl)
theorem bk86_45 {w : am_Wd} {l0 : Nat} {l1 : Nat} {l3 : Int32} {s0 : Int32} {s1 : Int32} : am_run 86 45 [some (.ref l0), some (.ref l1), none, some (.int l3)] [.int s0, .int s1] w = am_run 86 4 [some (.ref l0), some (.ref l1), some (.int (s1 + s0)), some (.int (l3 + (nI 1)))] [] w := by
  refine (bu (ls'' := [some (.ref l0), some (.ref l1), none, some (.int l3)]) (st' := [.int (s1 + s0)]) bf86_45 bf86_46 rfl rfl).trans ?_
  refine (bu (ls'' := [some (.ref l0), some (.ref l1), some (.int (s1 + s0)), some (.int l3)]) (st' := []) bf86_46 bf86_47 rfl rfl).trans ?_
  refine (bu (ls'' := [some (.ref l0), some (.ref l1), some (.int (s1 + s0)), some (.int (l3 + (nI 1)))]) (st' := []) bf86_47 bf86_50 rfl rfl).trans ?_
  refine (bu (ls'' := [some (.ref l0), some (.ref l1), some (.int (s1 + s0)), some (.int (l3 + (nI 1)))]) (st' := []) bf86_50 bf86_4 rfl rfl).trans ?_
  rfl
theorem bf87_0 : am_fetch (am_mth 87) 0 = some (.lconst 1, 1, [], [3, 4, 5]) := by decide +kernel
theorem bf87_1 : am_fetch (am_mth 87) 1 = some (.iload_n 1, 1, [], [3, 4, 5]) := by decide +kernel
theorem bf87_2 : am_fetch (am_mth 87) 2 = some (.lshl, 1, [], [1, 3, 4, 5]) := by decide +kernel
theorem bf87_3 : am_fetch (am_mth 87) 3 = some (.lstore_n 3, 1, [], [1, 3, 4, 5]) := by decide +kernel
theorem bf87_4 : am_fetch (am_mth 87) 4 = some (.iconst 0, 1, [], [1, 4, 5]) := by decide +kernel
theorem bf87_5 : am_fetch (am_mth 87) 5 = some (.istore 5, 2, [], [1, 4, 5]) := by decide +kernel
theorem bf87_7 : am_fetch (am_mth 87) 7 = some (.iload 5, 2, [], [1, 4]) := by decide +kernel
theorem bf87_9 : am_fetch (am_mth 87) 9 = some (.bipush 36, 2, [], [1, 4]) := by decide +kernel
theorem bf87_11 : am_fetch (am_mth 87) 11 = some (.if_icmp .ge 26, 3, [], [1, 4]) := by decide +kernel
theorem bf87_14 : am_fetch (am_mth 87) 14 = some (.lload_n 3, 1, [], [1, 4]) := by decide +kernel
theorem bf87_15 : am_fetch (am_mth 87) 15 = some (.iload_n 2, 1, [], [1, 4]) := by decide +kernel
theorem bf87_16 : am_fetch (am_mth 87) 16 = some (.invokestatic 24, 3, [0, 11, 2, 177, 178, 57], [1, 4]) := by decide +kernel
theorem bf87_19 : am_fetch (am_mth 87) 19 = some (.ifCond .eq 6, 3, [], [1, 4]) := by decide +kernel
theorem bf87_22 : am_fetch (am_mth 87) 22 = some (.iload 5, 2, [], [0, 1, 2, 3, 4]) := by decide +kernel
theorem bf87_24 : am_fetch (am_mth 87) 24 = some (.ireturn, 1, [0], [0, 1, 2, 3, 4, 5]) := by decide +kernel
theorem bf87_25 : am_fetch (am_mth 87) 25 = some (.aload_n 0, 1, [], [1, 4]) := by decide +kernel
theorem bf87_26 : am_fetch (am_mth 87) 26 = some (.lload_n 3, 1, [], [1, 4]) := by decide +kernel
theorem bf87_27 : am_fetch (am_mth 87) 27 = some (.invokevirtual 54, 3, [0, 23, 1, 7, 390, 392, 5, 64], [1, 3, 4]) := by decide +kernel
theorem bf87_30 : am_fetch (am_mth 87) 30 = some (.lstore_n 3, 1, [], [1, 3, 4]) := by decide +kernel
theorem bf87_31 : am_fetch (am_mth 87) 31 = some (.iinc 5 1, 3, [], [1, 4]) := by decide +kernel
theorem bf87_34 : am_fetch (am_mth 87) 34 = some (.goto (-27), 3, [], [1, 4]) := by decide +kernel
theorem bf87_37 : am_fetch (am_mth 87) 37 = some (.iconst (-1), 1, [], [0, 1, 2, 3, 4, 5]) := by decide +kernel
theorem bf87_38 : am_fetch (am_mth 87) 38 = some (.ireturn, 1, [0], [0, 1, 2, 3, 4, 5]) := by decide +kernel
theorem bk87_0 {w : am_Wd} {l0 : Nat} {l1 : Int32} {l2 : Int32} : am_run 87 0 [some (.ref l0), some (.int l1), some (.int l2), none, none, none] [] w = am_run 87 7 [some (.ref l0), none, some (.int l2), some (.long (bj_lshl (lN 1) l1)), none, some (.int (nI 0))] [] w := by
  refine (bu (ls'' := [some (.ref l0), some (.int l1), some (.int l2), none, none, none]) (st' := [.long (lN 1)]) bf87_0 bf87_1 rfl rfl).trans ?_
  refine (bu (ls'' := [some (.ref l0), none, some (.int l2), none, none, none]) (st' := [.int l1, .long (lN 1)]) bf87_1 bf87_2 rfl rfl).trans ?_
  refine (bu (ls'' := [some (.ref l0), none, some (.int l2), none, none, none]) (st' := [.long (bj_lshl (lN 1) l1)]) bf87_2 bf87_3 rfl rfl).trans ?_
  refine (bu (ls'' := [some (.ref l0), none, some (.int l2), some (.long (bj_lshl (lN 1) l1)), none, none]) (st' := []) bf87_3 bf87_4 rfl rfl).trans ?_
  refine (bu (ls'' := [some (.ref l0), none, some (.int l2), some (.long (bj_lshl (lN 1) l1)), none, none]) (st' := [.int (nI 0)]) bf87_4 bf87_5 rfl rfl).trans ?_
  refine (bu (ls'' := [some (.ref l0), none, some (.int l2), some (.long (bj_lshl (lN 1) l1)), none, some (.int (nI 0))]) (st' := []) bf87_5 bf87_7 rfl rfl).trans ?_
  rfl
theorem bk87_7 {w : am_Wd} {l0 : Nat} {l2 : Int32} {l3 : Int64} {l5 : Int32} : am_run 87 7 [some (.ref l0), none, some (.int l2), some (.long l3), none, some (.int l5)] [] w = if (nI 36) ≤ l5 then am_run 87 37 [none, none, none, none, none, none] [] w else am_run 87 14 [some (.ref l0), none, some (.int l2), some (.long l3), none, some (.int l5)] [] w := by
  refine (bu (ls'' := [some (.ref l0), none, some (.int l2), some (.long l3), none, some (.int l5)]) (st' := [.int l5]) bf87_7 bf87_9 rfl rfl).trans ?_
  refine (bu (ls'' := [some (.ref l0), none, some (.int l2), some (.long l3), none, some (.int l5)]) (st' := [.int (nI 36), .int l5]) bf87_9 bf87_11 rfl rfl).trans ?_
  exact bic bf87_11 rfl bf87_37 bf87_14 rfl rfl rfl
theorem bk87_37 {w : am_Wd}  : am_run 87 37 [none, none, none, none, none, none] [] w = some (.inl (some (.int (-1 : Int32))), w) := by
  refine (bu (ls'' := [none, none, none, none, none, none]) (st' := [.int (-1 : Int32)]) bf87_37 bf87_38 rfl rfl).trans ?_
  exact am_e2 bf87_38 rfl (am_ge_rf w)
theorem bk87_14 {w : am_Wd} {l0 : Nat} {l2 : Int32} {l3 : Int64} {l5 : Int32} : am_run 87 14 [some (.ref l0), none, some (.int l2), some (.long l3), none, some (.int l5)] [] w = (am_x 11 [.long l3, .int l2] w).bind fun r => bct r fun v w' => am_run 87 19 [some (.ref l0), none, some (.int l2), some (.long l3), none, some (.int l5)] (v.toList ++ []) w' := by
  refine (bu (ls'' := [some (.ref l0), none, some (.int l2), some (.long l3), none, some (.int l5)]) (st' := [.long l3]) bf87_14 bf87_15 rfl rfl).trans ?_
  refine (bu (ls'' := [some (.ref l0), none, some (.int l2), some (.long l3), none, some (.int l5)]) (st' := [.int l2, .long l3]) bf87_15 bf87_16 rfl rfl).trans ?_
  exact bkS bf87_16 bf87_19 rfl (by decide +kernel) (Nat.le_of_ble_eq_true rfl) rfl (bhd rfl)
theorem bk87_19 {w : am_Wd} {l0 : Nat} {l2 : Int32} {l3 : Int64} {l5 : Int32} {s0 : Int32} : am_run 87 19 [some (.ref l0), none, some (.int l2), some (.long l3), none, some (.int l5)] [.int s0] w = if s0 = nI 0 then am_run 87 25 [some (.ref l0), none, some (.int l2), some (.long l3), none, some (.int l5)] [] w else am_run 87 22 [none, none, none, none, none, some (.int l5)] [] w := by
  exact bifc bf87_19 rfl bf87_25 bf87_22 rfl rfl rfl
theorem bk87_25 {w : am_Wd} {l0 : Nat} {l2 : Int32} {l3 : Int64} {l5 : Int32} : am_run 87 25 [some (.ref l0), none, some (.int l2), some (.long l3), none, some (.int l5)] [] w = (am_kf w l0 7).bind fun _ => (am_x 23 [.ref l0, .long l3] w).bind fun r => bct r fun v w' => am_run 87 30 [some (.ref l0), none, some (.int l2), none, none, some (.int l5)] (v.toList ++ []) w' := by
  refine (bu (ls'' := [some (.ref l0), none, some (.int l2), some (.long l3), none, some (.int l5)]) (st' := [.ref l0]) bf87_25 bf87_26 rfl rfl).trans ?_
  refine (bu (ls'' := [some (.ref l0), none, some (.int l2), none, none, some (.int l5)]) (st' := [.long l3, .ref l0]) bf87_26 bf87_27 rfl rfl).trans ?_
  exact bkV bf87_27 bf87_30 rfl (by decide +kernel) (Nat.le_of_ble_eq_true rfl) rfl (bhd rfl)
theorem bk87_22 {w : am_Wd} {l5 : Int32} : am_run 87 22 [none, none, none, none, none, some (.int l5)] [] w = some (.inl (some (.int l5)), w) := by
  refine (bu (ls'' := [none, none, none, none, none, none]) (st' := [.int l5]) bf87_22 bf87_24 rfl rfl).trans ?_
  exact am_e2 bf87_24 rfl (am_ge_rf w)
theorem bk87_30 {w : am_Wd} {l0 : Nat} {l2 : Int32} {l5 : Int32} {s0 : Int64} : am_run 87 30 [some (.ref l0), none, some (.int l2), none, none, some (.int l5)] [.long s0] w = am_run 87 7 [some (.ref l0), none, some (.int l2), some (.long s0), none, some (.int (l5 + (nI 1)))] [] w := by
  refine (bu (ls'' := [some (.ref l0), none, some (.int l2), some (.long s0), none, some (.int l5)]) (st' := []) bf87_30 bf87_31 rfl rfl).trans ?_
  refine (bu (ls'' := [some (.ref l0), none, some (.int l2), some (.long s0), none, some (.int (l5 + (nI 1)))]) (st' := []) bf87_31 bf87_34 rfl rfl).trans ?_
  refine (bu (ls'' := [some (.ref l0), none, some (.int l2), some (.long s0), none, some (.int (l5 + (nI 1)))]) (st' := []) bf87_34 bf87_7 rfl rfl).trans ?_
  rfl
theorem bf88_0 : am_fetch (am_mth 88) 0 = some (.iconst 0, 1, [], [1, 2]) := by decide +kernel
theorem bf88_1 : am_fetch (am_mth 88) 1 = some (.istore_n 2, 1, [], [1, 2]) := by decide +kernel
theorem bf88_2 : am_fetch (am_mth 88) 2 = some (.iload_n 2, 1, [], [1]) := by decide +kernel
theorem bf88_3 : am_fetch (am_mth 88) 3 = some (.bipush 36, 2, [], [1]) := by decide +kernel
theorem bf88_5 : am_fetch (am_mth 88) 5 = some (.if_icmp .ge 19, 3, [], [1]) := by decide +kernel
theorem bf88_8 : am_fetch (am_mth 88) 8 = some (.lload_n 0, 1, [], [1]) := by decide +kernel
theorem bf88_9 : am_fetch (am_mth 88) 9 = some (.iload_n 2, 1, [], [1]) := by decide +kernel
theorem bf88_10 : am_fetch (am_mth 88) 10 = some (.invokestatic 24, 3, [0, 11, 2, 177, 178, 57], [1]) := by decide +kernel
theorem bf88_13 : am_fetch (am_mth 88) 13 = some (.ifCond .eq 5, 3, [], [1]) := by decide +kernel
theorem bf88_16 : am_fetch (am_mth 88) 16 = some (.iload_n 2, 1, [], [0, 1]) := by decide +kernel
theorem bf88_17 : am_fetch (am_mth 88) 17 = some (.ireturn, 1, [0], [0, 1, 2]) := by decide +kernel
theorem bf88_18 : am_fetch (am_mth 88) 18 = some (.iinc 2 1, 3, [], [1]) := by decide +kernel
theorem bf88_21 : am_fetch (am_mth 88) 21 = some (.goto (-19), 3, [], [1]) := by decide +kernel
theorem bf88_24 : am_fetch (am_mth 88) 24 = some (.iconst (-1), 1, [], [0, 1, 2]) := by decide +kernel
theorem bf88_25 : am_fetch (am_mth 88) 25 = some (.ireturn, 1, [0], [0, 1, 2]) := by decide +kernel
theorem bk88_0 {w : am_Wd} {l0 : Int64} : am_run 88 0 [some (.long l0), none, none] [] w = am_run 88 2 [some (.long l0), none, some (.int (nI 0))] [] w := by
  refine (bu (ls'' := [some (.long l0), none, none]) (st' := [.int (nI 0)]) bf88_0 bf88_1 rfl rfl).trans ?_
  refine (bu (ls'' := [some (.long l0), none, some (.int (nI 0))]) (st' := []) bf88_1 bf88_2 rfl rfl).trans ?_
  rfl
theorem bk88_2 {w : am_Wd} {l0 : Int64} {l2 : Int32} : am_run 88 2 [some (.long l0), none, some (.int l2)] [] w = if (nI 36) ≤ l2 then am_run 88 24 [none, none, none] [] w else am_run 88 8 [some (.long l0), none, some (.int l2)] [] w := by
  refine (bu (ls'' := [some (.long l0), none, some (.int l2)]) (st' := [.int l2]) bf88_2 bf88_3 rfl rfl).trans ?_
  refine (bu (ls'' := [some (.long l0), none, some (.int l2)]) (st' := [.int (nI 36), .int l2]) bf88_3 bf88_5 rfl rfl).trans ?_
  exact bic bf88_5 rfl bf88_24 bf88_8 rfl rfl rfl
theorem bk88_24 {w : am_Wd}  : am_run 88 24 [none, none, none] [] w = some (.inl (some (.int (-1 : Int32))), w) := by
  refine (bu (ls'' := [none, none, none]) (st' := [.int (-1 : Int32)]) bf88_24 bf88_25 rfl rfl).trans ?_
  exact am_e2 bf88_25 rfl (am_ge_rf w)
theorem bk88_8 {w : am_Wd} {l0 : Int64} {l2 : Int32} : am_run 88 8 [some (.long l0), none, some (.int l2)] [] w = (am_x 11 [.long l0, .int l2] w).bind fun r => bct r fun v w' => am_run 88 13 [some (.long l0), none, some (.int l2)] (v.toList ++ []) w' := by
  refine (bu (ls'' := [some (.long l0), none, some (.int l2)]) (st' := [.long l0]) bf88_8 bf88_9 rfl rfl).trans ?_
  refine (bu (ls'' := [some (.long l0), none, some (.int l2)]) (st' := [.int l2, .long l0]) bf88_9 bf88_10 rfl rfl).trans ?_
  exact bkS bf88_10 bf88_13 rfl (by decide +kernel) (Nat.le_of_ble_eq_true rfl) rfl (bhd rfl)
theorem bk88_13 {w : am_Wd} {l0 : Int64} {l2 : Int32} {s0 : Int32} : am_run 88 13 [some (.long l0), none, some (.int l2)] [.int s0] w = if s0 = nI 0 then am_run 88 18 [some (.long l0), none, some (.int l2)] [] w else am_run 88 16 [none, none, some (.int l2)] [] w := by
  exact bifc bf88_13 rfl bf88_18 bf88_16 rfl rfl rfl
theorem bk88_18 {w : am_Wd} {l0 : Int64} {l2 : Int32} : am_run 88 18 [some (.long l0), none, some (.int l2)] [] w = am_run 88 2 [some (.long l0), none, some (.int (l2 + (nI 1)))] [] w := by
  refine (bu (ls'' := [some (.long l0), none, some (.int (l2 + (nI 1)))]) (st' := []) bf88_18 bf88_21 rfl rfl).trans ?_
  refine (bu (ls'' := [some (.long l0), none, some (.int (l2 + (nI 1)))]) (st' := []) bf88_21 bf88_2 rfl rfl).trans ?_
  rfl
theorem bk88_16 {w : am_Wd} {l2 : Int32} : am_run 88 16 [none, none, some (.int l2)] [] w = some (.inl (some (.int l2)), w) := by
  refine (bu (ls'' := [none, none, none]) (st' := [.int l2]) bf88_16 bf88_17 rfl rfl).trans ?_
  exact am_e2 bf88_17 rfl (am_ge_rf w)
theorem bf89_0 : am_fetch (am_mth 89) 0 = some (.aload_n 0, 1, [], []) := by decide +kernel
theorem bf89_1 : am_fetch (am_mth 89) 1 = some (.invokespecial 1, 3, [1, 84, 85, 86], []) := by decide +kernel
theorem bf89_4 : am_fetch (am_mth 89) 4 = some (.aload_n 0, 1, [], []) := by decide +kernel
theorem bf89_5 : am_fetch (am_mth 89) 5 = some (.new 7, 3, [0, 5, 4, 87, 88, 47], []) := by decide +kernel
theorem bf89_8 : am_fetch (am_mth 89) 8 = some (.dup, 1, [], []) := by decide +kernel
theorem bf89_9 : am_fetch (am_mth 89) 9 = some (.invokespecial 9, 3, [0, 6, 0, 89, 90, 47], []) := by decide +kernel
theorem bf89_12 : am_fetch (am_mth 89) 12 = some (.putfield 10, 3, [0, 8, 0, 111], []) := by decide +kernel
theorem bf89_15 : am_fetch (am_mth 89) 15 = some (.aload_n 0, 1, [], []) := by decide +kernel
theorem bf89_16 : am_fetch (am_mth 89) 16 = some (.iconst 3, 1, [], []) := by decide +kernel
theorem bf89_17 : am_fetch (am_mth 89) 17 = some (.anewarray 16, 3, [4, 109, 110], []) := by decide +kernel
theorem bf89_20 : am_fetch (am_mth 89) 20 = some (.putfield 18, 3, [0, 8, 1, 112], []) := by decide +kernel
theorem bf89_23 : am_fetch (am_mth 89) 23 = some (.aload_n 0, 1, [], []) := by decide +kernel
theorem bf89_24 : am_fetch (am_mth 89) 24 = some (.bipush 7, 2, [], [0]) := by decide +kernel
theorem bf89_26 : am_fetch (am_mth 89) 26 = some (.putfield 22, 3, [0, 8, 4, 115], [0]) := by decide +kernel
theorem bf89_29 : am_fetch (am_mth 89) 29 = some (.return_, 1, [], [0]) := by decide +kernel
theorem bk89_0 {w : am_Wd} {l0 : Nat} : am_run 89 0 [some (.ref l0)] [] w = am_run 89 8 [some (.ref l0)] (.ref w.2.1 :: [.ref l0]) (am_nw w (.inr (5, am_df 5 4)) 4) := by
  refine (bu (ls'' := [some (.ref l0)]) (st' := [.ref l0]) bf89_0 bf89_1 rfl rfl).trans ?_
  refine (bu (ls'' := [some (.ref l0)]) (st' := []) bf89_1 bf89_4 rfl rfl).trans ?_
  refine (bu (ls'' := [some (.ref l0)]) (st' := [.ref l0]) bf89_4 bf89_5 rfl rfl).trans ?_
  exact bn bf89_5 bf89_8 rfl rfl (am_ge_nw _ _ _)
theorem bk89_8 {w : am_Wd} {l0 : Nat} {s0 : Nat} {s1 : Nat} : am_run 89 8 [some (.ref l0)] [.ref s0, .ref s1] w = (am_x 6 [.ref s0] w).bind fun r => bct r fun v w' => am_run 89 12 [some (.ref l0)] (v.toList ++ [.ref s0, .ref s1]) w' := by
  refine (bu (ls'' := [some (.ref l0)]) (st' := [.ref s0, .ref s0, .ref s1]) bf89_8 bf89_9 rfl rfl).trans ?_
  exact bkS bf89_9 bf89_12 rfl (by decide +kernel) (Nat.le_of_ble_eq_true rfl) rfl (bhd rfl)
theorem bk89_12 {w : am_Wd} {l0 : Nat} {s0 : Nat} {s1 : Nat} : am_run 89 12 [some (.ref l0)] [.ref s0, .ref s1] w = (am_pf w s1 8 0 (.ref s0)).bind fun w' => am_run 89 15 [some (.ref l0)] [] w' := by
  exact bh bf89_12 bf89_15 rfl (bge_pf) rfl
theorem bk89_15 {w : am_Wd} {l0 : Nat} : am_run 89 15 [some (.ref l0)] [] w = (am_na w 4 (nI 3)).bind fun w' => am_run 89 20 [some (.ref l0)] (.ref w.2.1 :: [.ref l0]) w' := by
  refine (bu (ls'' := [some (.ref l0)]) (st' := [.ref l0]) bf89_15 bf89_16 rfl rfl).trans ?_
  refine (bu (ls'' := [some (.ref l0)]) (st' := [.int (nI 3), .ref l0]) bf89_16 bf89_17 rfl rfl).trans ?_
  exact bh bf89_17 bf89_20 rfl (bge_na) rfl
theorem bk89_20 {w : am_Wd} {l0 : Nat} {s0 : Nat} {s1 : Nat} : am_run 89 20 [some (.ref l0)] [.ref s0, .ref s1] w = (am_pf w s1 8 1 (.ref s0)).bind fun w' => am_run 89 23 [some (.ref l0)] [] w' := by
  exact bh bf89_20 bf89_23 rfl (bge_pf) rfl
theorem bk89_23 {w : am_Wd} {l0 : Nat} : am_run 89 23 [some (.ref l0)] [] w = (am_pf w l0 8 4 (.int (nI 7))).bind fun w' => am_run 89 29 [none] [] w' := by
  refine (bu (ls'' := [none]) (st' := [.ref l0]) bf89_23 bf89_24 rfl rfl).trans ?_
  refine (bu (ls'' := [none]) (st' := [.int (nI 7), .ref l0]) bf89_24 bf89_26 rfl rfl).trans ?_
  exact bh bf89_26 bf89_29 rfl (bge_pf) rfl
theorem bk89_29 {w : am_Wd}  : am_run 89 29 [none] [] w = some (.inl none, w) := by
  exact am_e2 bf89_29 rfl (am_ge_rf w)
theorem bf90_0 : am_fetch (am_mth 90) 0 = some (.iload_n 1, 1, [], []) := by decide +kernel
theorem bf90_1 : am_fetch (am_mth 90) 1 = some (.invokestatic 26, 3, [0, 29, 1, 311, 312, 46], []) := by decide +kernel
theorem bf90_4 : am_fetch (am_mth 90) 4 = some (.aload_n 0, 1, [], []) := by decide +kernel
theorem bf90_5 : am_fetch (am_mth 90) 5 = some (.getfield 10, 3, [0, 8, 0, 111], []) := by decide +kernel
theorem bf90_8 : am_fetch (am_mth 90) 8 = some (.iload_n 1, 1, [], []) := by decide +kernel
theorem bf90_9 : am_fetch (am_mth 90) 9 = some (.iload_n 2, 1, [], [1]) := by decide +kernel
theorem bf90_10 : am_fetch (am_mth 90) 10 = some (.iload_n 3, 1, [], [1, 2]) := by decide +kernel
theorem bf90_11 : am_fetch (am_mth 90) 11 = some (.invokevirtual 62, 3, [0, 8, 3, 5, 532, 533, 534, 47], [1, 2, 3]) := by decide +kernel
theorem bf90_14 : am_fetch (am_mth 90) 14 = some (.aload_n 0, 1, [], [1, 2, 3]) := by decide +kernel
theorem bf90_15 : am_fetch (am_mth 90) 15 = some (.getfield 10, 3, [0, 8, 0, 111], [0, 1, 2, 3]) := by decide +kernel
theorem bf90_18 : am_fetch (am_mth 90) 18 = some (.getfield 66, 3, [1, 5, 3, 97], [0, 1, 2, 3]) := by decide +kernel
theorem bf90_21 : am_fetch (am_mth 90) 21 = some (.invokestatic 70, 3, [0, 50, 1, 302, 156, 61], [0, 1, 2, 3]) := by decide +kernel
theorem bf90_24 : am_fetch (am_mth 90) 24 = some (.ireturn, 1, [0], [0, 1, 2, 3]) := by decide +kernel
theorem bk90_0 {w : am_Wd} {l0 : Nat} {l1 : Int32} {l2 : Int32} {l3 : Int32} : am_run 90 0 [some (.ref l0), some (.int l1), some (.int l2), some (.int l3)] [] w = (am_x 29 [.int l1] w).bind fun r => bct r fun v w' => am_run 90 4 [some (.ref l0), some (.int l1), some (.int l2), some (.int l3)] (v.toList ++ []) w' := by
  refine (bu (ls'' := [some (.ref l0), some (.int l1), some (.int l2), some (.int l3)]) (st' := [.int l1]) bf90_0 bf90_1 rfl rfl).trans ?_
  exact bkS bf90_1 bf90_4 rfl (by decide +kernel) (Nat.le_of_ble_eq_true rfl) rfl (bhd rfl)
theorem bk90_4 {w : am_Wd} {l0 : Nat} {l1 : Int32} {l2 : Int32} {l3 : Int32} : am_run 90 4 [some (.ref l0), some (.int l1), some (.int l2), some (.int l3)] [] w = (am_gf w l0 8 0).bind fun v => am_run 90 8 [some (.ref l0), some (.int l1), some (.int l2), some (.int l3)] (v :: []) w := by
  refine (bu (ls'' := [some (.ref l0), some (.int l1), some (.int l2), some (.int l3)]) (st' := [.ref l0]) bf90_4 bf90_5 rfl rfl).trans ?_
  exact bh bf90_5 bf90_8 rfl (fun _ _ => am_ge_rf w) rfl
theorem bk90_8 {w : am_Wd} {l0 : Nat} {l1 : Int32} {l2 : Int32} {l3 : Int32} {s0 : Nat} : am_run 90 8 [some (.ref l0), some (.int l1), some (.int l2), some (.int l3)] [.ref s0] w = (am_kf w s0 5).bind fun _ => (am_x 8 [.ref s0, .int l1, .int l2, .int l3] w).bind fun r => bct r fun v w' => am_run 90 14 [some (.ref l0), none, none, none] (v.toList ++ []) w' := by
  refine (bu (ls'' := [some (.ref l0), none, some (.int l2), some (.int l3)]) (st' := [.int l1, .ref s0]) bf90_8 bf90_9 rfl rfl).trans ?_
  refine (bu (ls'' := [some (.ref l0), none, none, some (.int l3)]) (st' := [.int l2, .int l1, .ref s0]) bf90_9 bf90_10 rfl rfl).trans ?_
  refine (bu (ls'' := [some (.ref l0), none, none, none]) (st' := [.int l3, .int l2, .int l1, .ref s0]) bf90_10 bf90_11 rfl rfl).trans ?_
  exact bkV bf90_11 bf90_14 rfl (by decide +kernel) (Nat.le_of_ble_eq_true rfl) rfl (bhd rfl)
theorem bk90_14 {w : am_Wd} {l0 : Nat} : am_run 90 14 [some (.ref l0), none, none, none] [] w = (am_gf w l0 8 0).bind fun v => am_run 90 18 [none, none, none, none] (v :: []) w := by
  refine (bu (ls'' := [none, none, none, none]) (st' := [.ref l0]) bf90_14 bf90_15 rfl rfl).trans ?_
  exact bh bf90_15 bf90_18 rfl (fun _ _ => am_ge_rf w) rfl
theorem bk90_18 {w : am_Wd} {s0 : Nat} : am_run 90 18 [none, none, none, none] [.ref s0] w = (am_gf w s0 5 3).bind fun v => am_run 90 21 [none, none, none, none] (v :: []) w := by
  exact bh bf90_18 bf90_21 rfl (fun _ _ => am_ge_rf w) rfl
theorem bk90_21 {w : am_Wd} {s0 : Int64} : am_run 90 21 [none, none, none, none] [.long s0] w = (am_x 50 [.long s0] w).bind fun r => bct r fun v w' => am_run 90 24 [none, none, none, none] (v.toList ++ []) w' := by
  exact bkS bf90_21 bf90_24 rfl (by decide +kernel) (Nat.le_of_ble_eq_true rfl) rfl (bhd rfl)
theorem bk90_24 {w : am_Wd} {s0 : Int32} : am_run 90 24 [none, none, none, none] [.int s0] w = some (.inl (some (.int s0)), w) := by
  exact am_e2 bf90_24 rfl (am_ge_rf w)
theorem bf91_0 : am_fetch (am_mth 91) 0 = some (.aload_n 0, 1, [], [2]) := by decide +kernel
theorem bf91_1 : am_fetch (am_mth 91) 1 = some (.iload_n 1, 1, [], [0, 2]) := by decide +kernel
theorem bf91_2 : am_fetch (am_mth 91) 2 = some (.invokevirtual 89, 3, [0, 31, 1, 8, 352, 354, 4, 46], [0, 1, 2]) := by decide +kernel
theorem bf91_5 : am_fetch (am_mth 91) 5 = some (.astore_n 2, 1, [], [0, 1, 2]) := by decide +kernel
theorem bf91_6 : am_fetch (am_mth 91) 6 = some (.aload_n 2, 1, [], [0, 1]) := by decide +kernel
theorem bf91_7 : am_fetch (am_mth 91) 7 = some (.getfield 133, 3, [1, 6, 2, 615], [0, 1, 2]) := by decide +kernel
theorem bf91_10 : am_fetch (am_mth 91) 10 = some (.invokevirtual 274, 3, [0, 3, 0, 4, 468, 469, 470, 65], [0, 1, 2]) := by decide +kernel
theorem bf91_13 : am_fetch (am_mth 91) 13 = some (.invokestatic 70, 3, [0, 50, 1, 302, 156, 61], [0, 1, 2]) := by decide +kernel
theorem bf91_16 : am_fetch (am_mth 91) 16 = some (.i2d, 1, [], [0, 1, 2]) := by decide +kernel
theorem bf91_17 : am_fetch (am_mth 91) 17 = some (.ldc2_w 278, 3, [1, 4630263366890291200, 472], [0, 1, 2]) := by decide +kernel
theorem bf91_20 : am_fetch (am_mth 91) 20 = some (.ddiv, 1, [], [0, 1, 2]) := by decide +kernel
theorem bf91_21 : am_fetch (am_mth 91) 21 = some (.dreturn, 1, [], [0, 1, 2]) := by decide +kernel
theorem bk91_0 {w : am_Wd} {l0 : Nat} {l1 : Int32} : am_run 91 0 [some (.ref l0), some (.int l1), none] [] w = (am_kf w l0 8).bind fun _ => (am_x 31 [.ref l0, .int l1] w).bind fun r => bct r fun v w' => am_run 91 5 [none, none, none] (v.toList ++ []) w' := by
  refine (bu (ls'' := [none, some (.int l1), none]) (st' := [.ref l0]) bf91_0 bf91_1 rfl rfl).trans ?_
  refine (bu (ls'' := [none, none, none]) (st' := [.int l1, .ref l0]) bf91_1 bf91_2 rfl rfl).trans ?_
  exact bkV bf91_2 bf91_5 rfl (by decide +kernel) (Nat.le_of_ble_eq_true rfl) rfl (bhd rfl)
theorem bk91_5 {w : am_Wd} {s0 : Nat} : am_run 91 5 [none, none, none] [.ref s0] w = (am_gf w s0 6 2).bind fun v => am_run 91 10 [none, none, none] (v :: []) w := by
  refine (bu (ls'' := [none, none, some (.ref s0)]) (st' := []) bf91_5 bf91_6 rfl rfl).trans ?_
  refine (bu (ls'' := [none, none, none]) (st' := [.ref s0]) bf91_6 bf91_7 rfl rfl).trans ?_
  exact bh bf91_7 bf91_10 rfl (fun _ _ => am_ge_rf w) rfl
theorem bk91_10 {w : am_Wd} {s0 : Nat} : am_run 91 10 [none, none, none] [.ref s0] w = (am_kf w s0 4).bind fun _ => (am_x 3 [.ref s0] w).bind fun r => bct r fun v w' => am_run 91 13 [none, none, none] (v.toList ++ []) w' := by
  exact bkV bf91_10 bf91_13 rfl (by decide +kernel) (Nat.le_of_ble_eq_true rfl) rfl (bhd rfl)
theorem bk91_13 {w : am_Wd} {s0 : Int64} : am_run 91 13 [none, none, none] [.long s0] w = (am_x 50 [.long s0] w).bind fun r => bct r fun v w' => am_run 91 16 [none, none, none] (v.toList ++ []) w' := by
  exact bkS bf91_13 bf91_16 rfl (by decide +kernel) (Nat.le_of_ble_eq_true rfl) rfl (bhd rfl)
theorem bk91_16 {w : am_Wd} {s0 : Int32} (hn : (FP.ddiv (FP.i2d s0) (4630263366890291200 : UInt64)) &&& 0x7fffffffffffffff ≤ 0x7ff0000000000000) : am_run 91 16 [none, none, none] [.int s0] w = am_run 91 21 [none, none, none] [.double (FP.ddiv (FP.i2d s0) (4630263366890291200 : UInt64))] w := by
  refine (bu (ls'' := [none, none, none]) (st' := [.double (FP.i2d s0)]) bf91_16 bf91_17 rfl rfl).trans ?_
  refine (bu (ls'' := [none, none, none]) (st' := [.double (4630263366890291200 : UInt64), .double (FP.i2d s0)]) bf91_17 bf91_20 rfl rfl).trans ?_
  exact bdd (h := inferInstance) bf91_20 bf91_21 (fun h => by unfold am_stp; exact if_pos h) rfl hn
theorem bk91_21 {w : am_Wd} {s0 : UInt64} : am_run 91 21 [none, none, none] [.double s0] w = some (.inl (some (.double s0)), w) := by
  exact am_e2 bf91_21 rfl (am_ge_rf w)
theorem bf92_0 : am_fetch (am_mth 92) 0 = some (.iload_n 0, 1, [], []) := by decide +kernel
theorem bf92_1 : am_fetch (am_mth 92) 1 = some (.iload_n 1, 1, [], []) := by decide +kernel
theorem bf92_2 : am_fetch (am_mth 92) 2 = some (.if_icmp .lt 12, 3, [], [1]) := by decide +kernel
theorem bf92_5 : am_fetch (am_mth 92) 5 = some (.iload_n 0, 1, [], [1]) := by decide +kernel
theorem bf92_6 : am_fetch (am_mth 92) 6 = some (.iload_n 2, 1, [], [0, 1]) := by decide +kernel
theorem bf92_7 : am_fetch (am_mth 92) 7 = some (.if_icmp .gt 7, 3, [], [0, 1, 2]) := by decide +kernel
theorem bf92_10 : am_fetch (am_mth 92) 10 = some (.iconst 1, 1, [], [0, 1, 2]) := by decide +kernel
theorem bf92_11 : am_fetch (am_mth 92) 11 = some (.goto 4, 3, [], [0, 1, 2]) := by decide +kernel
theorem bf92_14 : am_fetch (am_mth 92) 14 = some (.iconst 0, 1, [], [0, 1, 2]) := by decide +kernel
theorem bf92_15 : am_fetch (am_mth 92) 15 = some (.invokestatic 39, 3, [0, 28, 1, 223, 224, 46], [0, 1, 2]) := by decide +kernel
theorem bf92_18 : am_fetch (am_mth 92) 18 = some (.return_, 1, [], [0, 1, 2]) := by decide +kernel
theorem bk92_0 {w : am_Wd} {l0 : Int32} {l1 : Int32} {l2 : Int32} : am_run 92 0 [some (.int l0), some (.int l1), some (.int l2)] [] w = if l0 < l1 then am_run 92 14 [none, none, none] [] w else am_run 92 5 [some (.int l0), none, some (.int l2)] [] w := by
  refine (bu (ls'' := [some (.int l0), some (.int l1), some (.int l2)]) (st' := [.int l0]) bf92_0 bf92_1 rfl rfl).trans ?_
  refine (bu (ls'' := [some (.int l0), none, some (.int l2)]) (st' := [.int l1, .int l0]) bf92_1 bf92_2 rfl rfl).trans ?_
  exact bic bf92_2 rfl bf92_14 bf92_5 rfl rfl rfl
theorem bk92_14 {w : am_Wd}  : am_run 92 14 [none, none, none] [] w = am_run 92 15 [none, none, none] [.int (nI 0)] w := by
  refine (bu (ls'' := [none, none, none]) (st' := [.int (nI 0)]) bf92_14 bf92_15 rfl rfl).trans ?_
  rfl
theorem bk92_5 {w : am_Wd} {l0 : Int32} {l2 : Int32} : am_run 92 5 [some (.int l0), none, some (.int l2)] [] w = if l2 < l0 then am_run 92 14 [none, none, none] [] w else am_run 92 10 [none, none, none] [] w := by
  refine (bu (ls'' := [none, none, some (.int l2)]) (st' := [.int l0]) bf92_5 bf92_6 rfl rfl).trans ?_
  refine (bu (ls'' := [none, none, none]) (st' := [.int l2, .int l0]) bf92_6 bf92_7 rfl rfl).trans ?_
  exact bic bf92_7 rfl bf92_14 bf92_10 rfl rfl rfl
theorem bk92_15 {w : am_Wd} {s0 : Int32} : am_run 92 15 [none, none, none] [.int s0] w = (am_x 28 [.int s0] w).bind fun r => bct r fun v w' => am_run 92 18 [none, none, none] (v.toList ++ []) w' := by
  exact bkS bf92_15 bf92_18 rfl (by decide +kernel) (Nat.le_of_ble_eq_true rfl) rfl (bhd rfl)
theorem bk92_10 {w : am_Wd}  : am_run 92 10 [none, none, none] [] w = am_run 92 15 [none, none, none] [.int (nI 1)] w := by
  refine (bu (ls'' := [none, none, none]) (st' := [.int (nI 1)]) bf92_10 bf92_11 rfl rfl).trans ?_
  refine (bu (ls'' := [none, none, none]) (st' := [.int (nI 1)]) bf92_11 bf92_15 rfl rfl).trans ?_
  rfl
theorem bk92_18 {w : am_Wd}  : am_run 92 18 [none, none, none] [] w = some (.inl none, w) := by
  exact am_e2 bf92_18 rfl (am_ge_rf w)
theorem bf93_0 : am_fetch (am_mth 93) 0 = some (.aload_n 0, 1, [], [1]) := by decide +kernel
theorem bf93_1 : am_fetch (am_mth 93) 1 = some (.getfield 22, 3, [0, 8, 4, 115], [1]) := by decide +kernel
theorem bf93_4 : am_fetch (am_mth 93) 4 = some (.istore_n 1, 1, [], [1]) := by decide +kernel
theorem bf93_5 : am_fetch (am_mth 93) 5 = some (.aload_n 0, 1, [], []) := by decide +kernel
theorem bf93_6 : am_fetch (am_mth 93) 6 = some (.iload_n 1, 1, [], []) := by decide +kernel
theorem bf93_7 : am_fetch (am_mth 93) 7 = some (.invokestatic 374, 3, [0, 27, 1, 683, 522, 46], []) := by decide +kernel
theorem bf93_10 : am_fetch (am_mth 93) 10 = some (.putfield 22, 3, [0, 8, 4, 115], []) := by decide +kernel
theorem bf93_13 : am_fetch (am_mth 93) 13 = some (.aload_n 0, 1, [], []) := by decide +kernel
theorem bf93_14 : am_fetch (am_mth 93) 14 = some (.dup, 1, [], [0]) := by decide +kernel
theorem bf93_15 : am_fetch (am_mth 93) 15 = some (.getfield 220, 3, [0, 8, 5, 116], [0]) := by decide +kernel
theorem bf93_18 : am_fetch (am_mth 93) 18 = some (.iconst 1, 1, [], [0]) := by decide +kernel
theorem bf93_19 : am_fetch (am_mth 93) 19 = some (.iadd, 1, [], [0]) := by decide +kernel
theorem bf93_20 : am_fetch (am_mth 93) 20 = some (.putfield 220, 3, [0, 8, 5, 116], [0]) := by decide +kernel
theorem bf93_23 : am_fetch (am_mth 93) 23 = some (.iload_n 1, 1, [], [0]) := by decide +kernel
theorem bf93_24 : am_fetch (am_mth 93) 24 = some (.ireturn, 1, [0], [0, 1]) := by decide +kernel
theorem bk93_0 {w : am_Wd} {l0 : Nat} : am_run 93 0 [some (.ref l0), none] [] w = (am_gf w l0 8 4).bind fun v => am_run 93 4 [some (.ref l0), none] (v :: []) w := by
  refine (bu (ls'' := [some (.ref l0), none]) (st' := [.ref l0]) bf93_0 bf93_1 rfl rfl).trans ?_
  exact bh bf93_1 bf93_4 rfl (fun _ _ => am_ge_rf w) rfl
theorem bk93_4 {w : am_Wd} {l0 : Nat} {s0 : Int32} : am_run 93 4 [some (.ref l0), none] [.int s0] w = (am_x 27 [.int s0] w).bind fun r => bct r fun v w' => am_run 93 10 [some (.ref l0), some (.int s0)] (v.toList ++ [.ref l0]) w' := by
  refine (bu (ls'' := [some (.ref l0), some (.int s0)]) (st' := []) bf93_4 bf93_5 rfl rfl).trans ?_
  refine (bu (ls'' := [some (.ref l0), some (.int s0)]) (st' := [.ref l0]) bf93_5 bf93_6 rfl rfl).trans ?_
  refine (bu (ls'' := [some (.ref l0), some (.int s0)]) (st' := [.int s0, .ref l0]) bf93_6 bf93_7 rfl rfl).trans ?_
  exact bkS bf93_7 bf93_10 rfl (by decide +kernel) (Nat.le_of_ble_eq_true rfl) rfl (bhd rfl)
theorem bk93_10 {w : am_Wd} {l0 : Nat} {l1 : Int32} {s0 : Int32} {s1 : Nat} : am_run 93 10 [some (.ref l0), some (.int l1)] [.int s0, .ref s1] w = (am_pf w s1 8 4 (.int s0)).bind fun w' => am_run 93 13 [some (.ref l0), some (.int l1)] [] w' := by
  exact bh bf93_10 bf93_13 rfl (bge_pf) rfl
theorem bk93_13 {w : am_Wd} {l0 : Nat} {l1 : Int32} : am_run 93 13 [some (.ref l0), some (.int l1)] [] w = (am_gf w l0 8 5).bind fun v => am_run 93 18 [none, some (.int l1)] (v :: [.ref l0]) w := by
  refine (bu (ls'' := [none, some (.int l1)]) (st' := [.ref l0]) bf93_13 bf93_14 rfl rfl).trans ?_
  refine (bu (ls'' := [none, some (.int l1)]) (st' := [.ref l0, .ref l0]) bf93_14 bf93_15 rfl rfl).trans ?_
  exact bh bf93_15 bf93_18 rfl (fun _ _ => am_ge_rf w) rfl
theorem bk93_18 {w : am_Wd} {l1 : Int32} {s0 : Int32} {s1 : Nat} : am_run 93 18 [none, some (.int l1)] [.int s0, .ref s1] w = (am_pf w s1 8 5 (.int (s0 + (nI 1)))).bind fun w' => am_run 93 23 [none, some (.int l1)] [] w' := by
  refine (bu (ls'' := [none, some (.int l1)]) (st' := [.int (nI 1), .int s0, .ref s1]) bf93_18 bf93_19 rfl rfl).trans ?_
  refine (bu (ls'' := [none, some (.int l1)]) (st' := [.int (s0 + (nI 1)), .ref s1]) bf93_19 bf93_20 rfl rfl).trans ?_
  exact bh bf93_20 bf93_23 rfl (bge_pf) rfl
theorem bk93_23 {w : am_Wd} {l1 : Int32} : am_run 93 23 [none, some (.int l1)] [] w = some (.inl (some (.int l1)), w) := by
  refine (bu (ls'' := [none, none]) (st' := [.int l1]) bf93_23 bf93_24 rfl rfl).trans ?_
  exact am_e2 bf93_24 rfl (am_ge_rf w)
theorem bf94_0 : am_fetch (am_mth 94) 0 = some (.iconst 0, 1, [], [2, 3]) := by decide +kernel
theorem bf94_1 : am_fetch (am_mth 94) 1 = some (.istore_n 2, 1, [], [2, 3]) := by decide +kernel
theorem bf94_2 : am_fetch (am_mth 94) 2 = some (.iload_n 2, 1, [], [3]) := by decide +kernel
theorem bf94_3 : am_fetch (am_mth 94) 3 = some (.aload_n 0, 1, [], [3]) := by decide +kernel
theorem bf94_4 : am_fetch (am_mth 94) 4 = some (.getfield 18, 3, [0, 8, 1, 112], [3]) := by decide +kernel
theorem bf94_7 : am_fetch (am_mth 94) 7 = some (.arraylength, 1, [], [3]) := by decide +kernel
theorem bf94_8 : am_fetch (am_mth 94) 8 = some (.if_icmp .ge 34, 3, [], [3]) := by decide +kernel
theorem bf94_11 : am_fetch (am_mth 94) 11 = some (.aload_n 0, 1, [], [3]) := by decide +kernel
theorem bf94_12 : am_fetch (am_mth 94) 12 = some (.getfield 18, 3, [0, 8, 1, 112], [3]) := by decide +kernel
theorem bf94_15 : am_fetch (am_mth 94) 15 = some (.iload_n 2, 1, [], [3]) := by decide +kernel
theorem bf94_16 : am_fetch (am_mth 94) 16 = some (.aaload, 1, [], [3]) := by decide +kernel
theorem bf94_17 : am_fetch (am_mth 94) 17 = some (.astore_n 3, 1, [], [3]) := by decide +kernel
theorem bf94_18 : am_fetch (am_mth 94) 18 = some (.aload_n 3, 1, [], []) := by decide +kernel
theorem bf94_19 : am_fetch (am_mth 94) 19 = some (.ifnull 17, 3, [], []) := by decide +kernel
theorem bf94_22 : am_fetch (am_mth 94) 22 = some (.aload_n 3, 1, [], []) := by decide +kernel
theorem bf94_23 : am_fetch (am_mth 94) 23 = some (.invokevirtual 103, 3, [0, 17, 0, 6, 667, 668, 669, 63], [3]) := by decide +kernel
theorem bf94_26 : am_fetch (am_mth 94) 26 = some (.iload_n 1, 1, [], [3]) := by decide +kernel
theorem bf94_27 : am_fetch (am_mth 94) 27 = some (.if_icmp .ne 9, 3, [], [3]) := by decide +kernel
theorem bf94_30 : am_fetch (am_mth 94) 30 = some (.bipush 48, 2, [], [0, 1, 3]) := by decide +kernel
theorem bf94_32 : am_fetch (am_mth 94) 32 = some (.iload_n 2, 1, [], [0, 1, 3]) := by decide +kernel
theorem bf94_33 : am_fetch (am_mth 94) 33 = some (.iadd, 1, [], [0, 1, 2, 3]) := by decide +kernel
theorem bf94_34 : am_fetch (am_mth 94) 34 = some (.i2c, 1, [], [0, 1, 2, 3]) := by decide +kernel
theorem bf94_35 : am_fetch (am_mth 94) 35 = some (.ireturn, 1, [2], [0, 1, 2, 3]) := by decide +kernel
theorem bf94_36 : am_fetch (am_mth 94) 36 = some (.iinc 2 1, 3, [], [3]) := by decide +kernel
theorem bf94_39 : am_fetch (am_mth 94) 39 = some (.goto (-37), 3, [], [3]) := by decide +kernel
theorem bf94_42 : am_fetch (am_mth 94) 42 = some (.aload_n 0, 1, [], [2, 3]) := by decide +kernel
theorem bf94_43 : am_fetch (am_mth 94) 43 = some (.getfield 10, 3, [0, 8, 0, 111], [2, 3]) := by decide +kernel
theorem bf94_46 : am_fetch (am_mth 94) 46 = some (.getfield 66, 3, [1, 5, 3, 97], [2, 3]) := by decide +kernel
theorem bf94_49 : am_fetch (am_mth 94) 49 = some (.iload_n 1, 1, [], [2, 3]) := by decide +kernel
theorem bf94_50 : am_fetch (am_mth 94) 50 = some (.invokestatic 361, 3, [0, 11, 2, 665, 178, 57], [2, 3]) := by decide +kernel
theorem bf94_53 : am_fetch (am_mth 94) 53 = some (.ifCond .eq 6, 3, [], [2, 3]) := by decide +kernel
theorem bf94_56 : am_fetch (am_mth 94) 56 = some (.bipush 120, 2, [], [0, 1, 2, 3]) := by decide +kernel
theorem bf94_58 : am_fetch (am_mth 94) 58 = some (.ireturn, 1, [2], [0, 1, 2, 3]) := by decide +kernel
theorem bf94_59 : am_fetch (am_mth 94) 59 = some (.aload_n 0, 1, [], [2, 3]) := by decide +kernel
theorem bf94_60 : am_fetch (am_mth 94) 60 = some (.getfield 10, 3, [0, 8, 0, 111], [0, 2, 3]) := by decide +kernel
theorem bf94_63 : am_fetch (am_mth 94) 63 = some (.getfield 217, 3, [1, 5, 2, 96], [0, 2, 3]) := by decide +kernel
theorem bf94_66 : am_fetch (am_mth 94) 66 = some (.iload_n 1, 1, [], [0, 2, 3]) := by decide +kernel
theorem bf94_67 : am_fetch (am_mth 94) 67 = some (.invokestatic 361, 3, [0, 11, 2, 665, 178, 57], [0, 1, 2, 3]) := by decide +kernel
theorem bf94_70 : am_fetch (am_mth 94) 70 = some (.ifCond .eq 8, 3, [], [0, 1, 2, 3]) := by decide +kernel
theorem bf94_73 : am_fetch (am_mth 94) 73 = some (.bipush 99, 2, [], [0, 1, 2, 3]) := by decide +kernel
theorem bf94_75 : am_fetch (am_mth 94) 75 = some (.goto 5, 3, [], [0, 1, 2, 3]) := by decide +kernel
theorem bf94_78 : am_fetch (am_mth 94) 78 = some (.bipush 46, 2, [], [0, 1, 2, 3]) := by decide +kernel
theorem bf94_80 : am_fetch (am_mth 94) 80 = some (.ireturn, 1, [2], [0, 1, 2, 3]) := by decide +kernel
theorem bk94_0 {w : am_Wd} {l0 : Nat} {l1 : Int32} : am_run 94 0 [some (.ref l0), some (.int l1), none, none] [] w = am_run 94 2 [some (.ref l0), some (.int l1), some (.int (nI 0)), none] [] w := by
  refine (bu (ls'' := [some (.ref l0), some (.int l1), none, none]) (st' := [.int (nI 0)]) bf94_0 bf94_1 rfl rfl).trans ?_
  refine (bu (ls'' := [some (.ref l0), some (.int l1), some (.int (nI 0)), none]) (st' := []) bf94_1 bf94_2 rfl rfl).trans ?_
  rfl
theorem bk94_2 {w : am_Wd} {l0 : Nat} {l1 : Int32} {l2 : Int32} : am_run 94 2 [some (.ref l0), some (.int l1), some (.int l2), none] [] w = (am_gf w l0 8 1).bind fun v => am_run 94 7 [some (.ref l0), some (.int l1), some (.int l2), none] (v :: [.int l2]) w := by
  refine (bu (ls'' := [some (.ref l0), some (.int l1), some (.int l2), none]) (st' := [.int l2]) bf94_2 bf94_3 rfl rfl).trans ?_
  refine (bu (ls'' := [some (.ref l0), some (.int l1), some (.int l2), none]) (st' := [.ref l0, .int l2]) bf94_3 bf94_4 rfl rfl).trans ?_
  exact bh bf94_4 bf94_7 rfl (fun _ _ => am_ge_rf w) rfl
theorem bk94_7 {w : am_Wd} {l0 : Nat} {l1 : Int32} {l2 : Int32} {s0 : Nat} {s1 : Int32} : am_run 94 7 [some (.ref l0), some (.int l1), some (.int l2), none] [.ref s0, .int s1] w = (am_len w s0).bind fun v => am_run 94 8 [some (.ref l0), some (.int l1), some (.int l2), none] (.int (nI v) :: [.int s1]) w := by
  exact bh bf94_7 bf94_8 rfl (fun _ _ => am_ge_rf w) rfl
theorem bk94_8 {w : am_Wd} {l0 : Nat} {l1 : Int32} {l2 : Int32} {s0 : Int32} {s1 : Int32} : am_run 94 8 [some (.ref l0), some (.int l1), some (.int l2), none] [.int s0, .int s1] w = if s0 ≤ s1 then am_run 94 42 [some (.ref l0), some (.int l1), none, none] [] w else am_run 94 11 [some (.ref l0), some (.int l1), some (.int l2), none] [] w := by
  exact bic bf94_8 rfl bf94_42 bf94_11 rfl rfl rfl
theorem bk94_42 {w : am_Wd} {l0 : Nat} {l1 : Int32} : am_run 94 42 [some (.ref l0), some (.int l1), none, none] [] w = (am_gf w l0 8 0).bind fun v => am_run 94 46 [some (.ref l0), some (.int l1), none, none] (v :: []) w := by
  refine (bu (ls'' := [some (.ref l0), some (.int l1), none, none]) (st' := [.ref l0]) bf94_42 bf94_43 rfl rfl).trans ?_
  exact bh bf94_43 bf94_46 rfl (fun _ _ => am_ge_rf w) rfl
theorem bk94_11 {w : am_Wd} {l0 : Nat} {l1 : Int32} {l2 : Int32} : am_run 94 11 [some (.ref l0), some (.int l1), some (.int l2), none] [] w = (am_gf w l0 8 1).bind fun v => am_run 94 15 [some (.ref l0), some (.int l1), some (.int l2), none] (v :: []) w := by
  refine (bu (ls'' := [some (.ref l0), some (.int l1), some (.int l2), none]) (st' := [.ref l0]) bf94_11 bf94_12 rfl rfl).trans ?_
  exact bh bf94_12 bf94_15 rfl (fun _ _ => am_ge_rf w) rfl
theorem bk94_46 {w : am_Wd} {l0 : Nat} {l1 : Int32} {s0 : Nat} : am_run 94 46 [some (.ref l0), some (.int l1), none, none] [.ref s0] w = (am_gf w s0 5 3).bind fun v => am_run 94 49 [some (.ref l0), some (.int l1), none, none] (v :: []) w := by
  exact bh bf94_46 bf94_49 rfl (fun _ _ => am_ge_rf w) rfl
theorem bk94_15 {w : am_Wd} {l0 : Nat} {l1 : Int32} {l2 : Int32} {s0 : Nat} : am_run 94 15 [some (.ref l0), some (.int l1), some (.int l2), none] [.ref s0] w = (am_rq w s0 l2).bind fun v => am_run 94 17 [some (.ref l0), some (.int l1), some (.int l2), none] (v :: []) w := by
  refine (bu (ls'' := [some (.ref l0), some (.int l1), some (.int l2), none]) (st' := [.int l2, .ref s0]) bf94_15 bf94_16 rfl rfl).trans ?_
  exact bh bf94_16 bf94_17 rfl (fun _ _ => am_ge_rf w) rfl
theorem bk94_49 {w : am_Wd} {l0 : Nat} {l1 : Int32} {s0 : Int64} : am_run 94 49 [some (.ref l0), some (.int l1), none, none] [.long s0] w = (am_x 11 [.long s0, .int l1] w).bind fun r => bct r fun v w' => am_run 94 53 [some (.ref l0), some (.int l1), none, none] (v.toList ++ []) w' := by
  refine (bu (ls'' := [some (.ref l0), some (.int l1), none, none]) (st' := [.int l1, .long s0]) bf94_49 bf94_50 rfl rfl).trans ?_
  exact bkS bf94_50 bf94_53 rfl (by decide +kernel) (Nat.le_of_ble_eq_true rfl) rfl (bhd rfl)
theorem bk94_17 {w : am_Wd} {l0 : Nat} {l1 : Int32} {l2 : Int32} {s0 : Nat} : am_run 94 17 [some (.ref l0), some (.int l1), some (.int l2), none] [.ref s0] w = (am_kf w s0 6).bind fun _ => (am_x 17 [.ref s0] w).bind fun r => bct r fun v w' => am_run 94 26 [some (.ref l0), some (.int l1), some (.int l2), none] (v.toList ++ []) w' := by
  refine (bu (ls'' := [some (.ref l0), some (.int l1), some (.int l2), some (.ref s0)]) (st' := []) bf94_17 bf94_18 rfl rfl).trans ?_
  refine (bu (ls'' := [some (.ref l0), some (.int l1), some (.int l2), some (.ref s0)]) (st' := [.ref s0]) bf94_18 bf94_19 rfl rfl).trans ?_
  refine (bu (ls'' := [some (.ref l0), some (.int l1), some (.int l2), some (.ref s0)]) (st' := []) bf94_19 bf94_22 rfl rfl).trans ?_
  refine (bu (ls'' := [some (.ref l0), some (.int l1), some (.int l2), none]) (st' := [.ref s0]) bf94_22 bf94_23 rfl rfl).trans ?_
  exact bkV bf94_23 bf94_26 rfl (by decide +kernel) (Nat.le_of_ble_eq_true rfl) rfl (bhd rfl)
theorem bk94_17a {w : am_Wd} {l0 : Nat} {l1 : Int32} {l2 : Int32} : am_run 94 17 [some (.ref l0), some (.int l1), some (.int l2), none] [.null] w = am_run 94 36 [some (.ref l0), some (.int l1), some (.int l2), none] [] w := by
  refine (bu (ls'' := [some (.ref l0), some (.int l1), some (.int l2), some (.null)]) (st' := []) bf94_17 bf94_18 rfl rfl).trans ?_
  refine (bu (ls'' := [some (.ref l0), some (.int l1), some (.int l2), some (.null)]) (st' := [.null]) bf94_18 bf94_19 rfl rfl).trans ?_
  refine (bu (ls'' := [some (.ref l0), some (.int l1), some (.int l2), none]) (st' := []) bf94_19 bf94_36 rfl rfl).trans ?_
  rfl
theorem bk94_53 {w : am_Wd} {l0 : Nat} {l1 : Int32} {s0 : Int32} : am_run 94 53 [some (.ref l0), some (.int l1), none, none] [.int s0] w = if s0 = nI 0 then am_run 94 59 [some (.ref l0), some (.int l1), none, none] [] w else am_run 94 56 [none, none, none, none] [] w := by
  exact bifc bf94_53 rfl bf94_59 bf94_56 rfl rfl rfl
theorem bk94_26 {w : am_Wd} {l0 : Nat} {l1 : Int32} {l2 : Int32} {s0 : Int32} : am_run 94 26 [some (.ref l0), some (.int l1), some (.int l2), none] [.int s0] w = if ¬ s0 = l1 then am_run 94 36 [some (.ref l0), some (.int l1), some (.int l2), none] [] w else am_run 94 30 [none, none, some (.int l2), none] [] w := by
  refine (bu (ls'' := [some (.ref l0), some (.int l1), some (.int l2), none]) (st' := [.int l1, .int s0]) bf94_26 bf94_27 rfl rfl).trans ?_
  exact bic bf94_27 rfl bf94_36 bf94_30 rfl rfl rfl
theorem bk94_36 {w : am_Wd} {l0 : Nat} {l1 : Int32} {l2 : Int32} : am_run 94 36 [some (.ref l0), some (.int l1), some (.int l2), none] [] w = am_run 94 2 [some (.ref l0), some (.int l1), some (.int (l2 + (nI 1))), none] [] w := by
  refine (bu (ls'' := [some (.ref l0), some (.int l1), some (.int (l2 + (nI 1))), none]) (st' := []) bf94_36 bf94_39 rfl rfl).trans ?_
  refine (bu (ls'' := [some (.ref l0), some (.int l1), some (.int (l2 + (nI 1))), none]) (st' := []) bf94_39 bf94_2 rfl rfl).trans ?_
  rfl
theorem bk94_59 {w : am_Wd} {l0 : Nat} {l1 : Int32} : am_run 94 59 [some (.ref l0), some (.int l1), none, none] [] w = (am_gf w l0 8 0).bind fun v => am_run 94 63 [none, some (.int l1), none, none] (v :: []) w := by
  refine (bu (ls'' := [none, some (.int l1), none, none]) (st' := [.ref l0]) bf94_59 bf94_60 rfl rfl).trans ?_
  exact bh bf94_60 bf94_63 rfl (fun _ _ => am_ge_rf w) rfl
theorem bk94_56 {w : am_Wd}  : am_run 94 56 [none, none, none, none] [] w = some (.inl (some (.int (nI 120))), w) := by
  refine (bu (ls'' := [none, none, none, none]) (st' := [.int (nI 120)]) bf94_56 bf94_58 rfl rfl).trans ?_
  exact am_e2 bf94_58 rfl (am_ge_rf w)
theorem bk94_30 {w : am_Wd} {l2 : Int32} (hb : am_ok (am_rt 2) (.int (bj_i2c ((nI 48) + l2))) = true) : am_run 94 30 [none, none, some (.int l2), none] [] w = some (.inl (some (.int (bj_i2c ((nI 48) + l2)))), w) := by
  refine (bu (ls'' := [none, none, some (.int l2), none]) (st' := [.int (nI 48)]) bf94_30 bf94_32 rfl rfl).trans ?_
  refine (bu (ls'' := [none, none, none, none]) (st' := [.int l2, .int (nI 48)]) bf94_32 bf94_33 rfl rfl).trans ?_
  refine (bu (ls'' := [none, none, none, none]) (st' := [.int ((nI 48) + l2)]) bf94_33 bf94_34 rfl rfl).trans ?_
  refine (bu (ls'' := [none, none, none, none]) (st' := [.int (bj_i2c ((nI 48) + l2))]) bf94_34 bf94_35 rfl rfl).trans ?_
  exact am_e2 bf94_35 (by unfold am_stp; exact if_pos ⟨by decide, hb⟩) (am_ge_rf w)
theorem bk94_63 {w : am_Wd} {l1 : Int32} {s0 : Nat} : am_run 94 63 [none, some (.int l1), none, none] [.ref s0] w = (am_gf w s0 5 2).bind fun v => am_run 94 66 [none, some (.int l1), none, none] (v :: []) w := by
  exact bh bf94_63 bf94_66 rfl (fun _ _ => am_ge_rf w) rfl
theorem bk94_66 {w : am_Wd} {l1 : Int32} {s0 : Int64} : am_run 94 66 [none, some (.int l1), none, none] [.long s0] w = (am_x 11 [.long s0, .int l1] w).bind fun r => bct r fun v w' => am_run 94 70 [none, none, none, none] (v.toList ++ []) w' := by
  refine (bu (ls'' := [none, none, none, none]) (st' := [.int l1, .long s0]) bf94_66 bf94_67 rfl rfl).trans ?_
  exact bkS bf94_67 bf94_70 rfl (by decide +kernel) (Nat.le_of_ble_eq_true rfl) rfl (bhd rfl)
theorem bk94_70 {w : am_Wd} {s0 : Int32} : am_run 94 70 [none, none, none, none] [.int s0] w = if s0 = nI 0 then am_run 94 78 [none, none, none, none] [] w else am_run 94 73 [none, none, none, none] [] w := by
  exact bifc bf94_70 rfl bf94_78 bf94_73 rfl rfl rfl
theorem bk94_78 {w : am_Wd}  : am_run 94 78 [none, none, none, none] [] w = am_run 94 80 [none, none, none, none] [.int (nI 46)] w := by
  refine (bu (ls'' := [none, none, none, none]) (st' := [.int (nI 46)]) bf94_78 bf94_80 rfl rfl).trans ?_
  rfl
theorem bk94_73 {w : am_Wd}  : am_run 94 73 [none, none, none, none] [] w = am_run 94 80 [none, none, none, none] [.int (nI 99)] w := by
  refine (bu (ls'' := [none, none, none, none]) (st' := [.int (nI 99)]) bf94_73 bf94_75 rfl rfl).trans ?_
  refine (bu (ls'' := [none, none, none, none]) (st' := [.int (nI 99)]) bf94_75 bf94_80 rfl rfl).trans ?_
  rfl
theorem bk94_80 {w : am_Wd} {s0 : Int32} (hb : am_ok (am_rt 2) (.int s0) = true) : am_run 94 80 [none, none, none, none] [.int s0] w = some (.inl (some (.int s0)), w) := by
  exact am_e2 bf94_80 (by unfold am_stp; exact if_pos ⟨by decide, hb⟩) (am_ge_rf w)
theorem bf95_0 : am_fetch (am_mth 95) 0 = some (.aload_n 0, 1, [], [1]) := by decide +kernel
theorem bf95_1 : am_fetch (am_mth 95) 1 = some (.invokevirtual 20, 3, [0, 37, 0, 10, 1407, 1408, 1409, 66], [1]) := by decide +kernel
theorem bf95_4 : am_fetch (am_mth 95) 4 = some (.iconst 1, 1, [], [1]) := by decide +kernel
theorem bf95_5 : am_fetch (am_mth 95) 5 = some (.if_icmp .eq 5, 3, [], [1]) := by decide +kernel
theorem bf95_8 : am_fetch (am_mth 95) 8 = some (.iconst (-1), 1, [], [0, 1]) := by decide +kernel
theorem bf95_9 : am_fetch (am_mth 95) 9 = some (.ireturn, 1, [0], [0, 1]) := by decide +kernel
theorem bf95_10 : am_fetch (am_mth 95) 10 = some (.iconst 0, 1, [], [1]) := by decide +kernel
theorem bf95_11 : am_fetch (am_mth 95) 11 = some (.istore_n 1, 1, [], [1]) := by decide +kernel
theorem bf95_12 : am_fetch (am_mth 95) 12 = some (.aload_n 0, 1, [], []) := by decide +kernel
theorem bf95_13 : am_fetch (am_mth 95) 13 = some (.getfield 9, 3, [0, 10, 3, 1306], []) := by decide +kernel
theorem bf95_16 : am_fetch (am_mth 95) 16 = some (.iload_n 1, 1, [], []) := by decide +kernel
theorem bf95_17 : am_fetch (am_mth 95) 17 = some (.baload, 1, [2], []) := by decide +kernel
theorem bf95_18 : am_fetch (am_mth 95) 18 = some (.ifCond .ne 9, 3, [], []) := by decide +kernel
theorem bf95_21 : am_fetch (am_mth 95) 21 = some (.iinc 1 1, 3, [], []) := by decide +kernel
theorem bf95_24 : am_fetch (am_mth 95) 24 = some (.goto (-12), 3, [], []) := by decide +kernel
theorem bf95_27 : am_fetch (am_mth 95) 27 = some (.iload_n 1, 1, [], [0]) := by decide +kernel
theorem bf95_28 : am_fetch (am_mth 95) 28 = some (.ireturn, 1, [0], [0, 1]) := by decide +kernel
theorem bk95_0 {w : am_Wd} {l0 : Nat} : am_run 95 0 [some (.ref l0), none] [] w = (am_kf w l0 10).bind fun _ => (am_x 37 [.ref l0] w).bind fun r => bct r fun v w' => am_run 95 4 [some (.ref l0), none] (v.toList ++ []) w' := by
  refine (bu (ls'' := [some (.ref l0), none]) (st' := [.ref l0]) bf95_0 bf95_1 rfl rfl).trans ?_
  exact bkV bf95_1 bf95_4 rfl (by decide +kernel) (Nat.le_of_ble_eq_true rfl) rfl (bhd rfl)
theorem bk95_4 {w : am_Wd} {l0 : Nat} {s0 : Int32} : am_run 95 4 [some (.ref l0), none] [.int s0] w = if s0 = (nI 1) then am_run 95 10 [some (.ref l0), none] [] w else am_run 95 8 [none, none] [] w := by
  refine (bu (ls'' := [some (.ref l0), none]) (st' := [.int (nI 1), .int s0]) bf95_4 bf95_5 rfl rfl).trans ?_
  exact bic bf95_5 rfl bf95_10 bf95_8 rfl rfl rfl
theorem bk95_10 {w : am_Wd} {l0 : Nat} : am_run 95 10 [some (.ref l0), none] [] w = am_run 95 12 [some (.ref l0), some (.int (nI 0))] [] w := by
  refine (bu (ls'' := [some (.ref l0), none]) (st' := [.int (nI 0)]) bf95_10 bf95_11 rfl rfl).trans ?_
  refine (bu (ls'' := [some (.ref l0), some (.int (nI 0))]) (st' := []) bf95_11 bf95_12 rfl rfl).trans ?_
  rfl
theorem bk95_8 {w : am_Wd}  : am_run 95 8 [none, none] [] w = some (.inl (some (.int (-1 : Int32))), w) := by
  refine (bu (ls'' := [none, none]) (st' := [.int (-1 : Int32)]) bf95_8 bf95_9 rfl rfl).trans ?_
  exact am_e2 bf95_9 rfl (am_ge_rf w)
theorem bk95_12 {w : am_Wd} {l0 : Nat} {l1 : Int32} : am_run 95 12 [some (.ref l0), some (.int l1)] [] w = (am_gf w l0 10 3).bind fun v => am_run 95 16 [some (.ref l0), some (.int l1)] (v :: []) w := by
  refine (bu (ls'' := [some (.ref l0), some (.int l1)]) (st' := [.ref l0]) bf95_12 bf95_13 rfl rfl).trans ?_
  exact bh bf95_13 bf95_16 rfl (fun _ _ => am_ge_rf w) rfl
theorem bk95_16 {w : am_Wd} {l0 : Nat} {l1 : Int32} {s0 : Nat} : am_run 95 16 [some (.ref l0), some (.int l1)] [.ref s0] w = (am_ri 2 w s0 l1).bind fun v => am_run 95 18 [some (.ref l0), some (.int l1)] (.int v :: []) w := by
  refine (bu (ls'' := [some (.ref l0), some (.int l1)]) (st' := [.int l1, .ref s0]) bf95_16 bf95_17 rfl rfl).trans ?_
  exact bh bf95_17 bf95_18 rfl (fun _ _ => am_ge_rf w) rfl
theorem bk95_18 {w : am_Wd} {l0 : Nat} {l1 : Int32} {s0 : Int32} : am_run 95 18 [some (.ref l0), some (.int l1)] [.int s0] w = if ¬ s0 = nI 0 then am_run 95 27 [none, some (.int l1)] [] w else am_run 95 21 [some (.ref l0), some (.int l1)] [] w := by
  exact bifc bf95_18 rfl bf95_27 bf95_21 rfl rfl rfl
theorem bk95_27 {w : am_Wd} {l1 : Int32} : am_run 95 27 [none, some (.int l1)] [] w = some (.inl (some (.int l1)), w) := by
  refine (bu (ls'' := [none, none]) (st' := [.int l1]) bf95_27 bf95_28 rfl rfl).trans ?_
  exact am_e2 bf95_28 rfl (am_ge_rf w)
theorem bk95_21 {w : am_Wd} {l0 : Nat} {l1 : Int32} : am_run 95 21 [some (.ref l0), some (.int l1)] [] w = am_run 95 12 [some (.ref l0), some (.int (l1 + (nI 1)))] [] w := by
  refine (bu (ls'' := [some (.ref l0), some (.int (l1 + (nI 1)))]) (st' := []) bf95_21 bf95_24 rfl rfl).trans ?_
  refine (bu (ls'' := [some (.ref l0), some (.int (l1 + (nI 1)))]) (st' := []) bf95_24 bf95_12 rfl rfl).trans ?_
  rfl
theorem bf96_0 : am_fetch (am_mth 96) 0 = some (.aload_n 0, 1, [], []) := by decide +kernel
theorem bf96_1 : am_fetch (am_mth 96) 1 = some (.iconst 0, 1, [], []) := by decide +kernel
theorem bf96_2 : am_fetch (am_mth 96) 2 = some (.putfield 35, 3, [0, 11, 0, 1197], []) := by decide +kernel
theorem bf96_5 : am_fetch (am_mth 96) 5 = some (.aload_n 0, 1, [], []) := by decide +kernel
theorem bf96_6 : am_fetch (am_mth 96) 6 = some (.iload_n 1, 1, [], [0]) := by decide +kernel
theorem bf96_7 : am_fetch (am_mth 96) 7 = some (.iload_n 2, 1, [], [0, 1]) := by decide +kernel
theorem bf96_8 : am_fetch (am_mth 96) 8 = some (.invokevirtual 38, 3, [0, 40, 2, 11, 1255, 1257, 19, 48], [0, 1, 2]) := by decide +kernel
theorem bf96_11 : am_fetch (am_mth 96) 11 = some (.ireturn, 1, [1], [0, 1, 2]) := by decide +kernel
theorem bk96_0 {w : am_Wd} {l0 : Nat} {l1 : Int32} {l2 : Int32} : am_run 96 0 [some (.ref l0), some (.int l1), some (.int l2)] [] w = (am_pf w l0 11 0 (.int (nI 0))).bind fun w' => am_run 96 5 [some (.ref l0), some (.int l1), some (.int l2)] [] w' := by
  refine (bu (ls'' := [some (.ref l0), some (.int l1), some (.int l2)]) (st' := [.ref l0]) bf96_0 bf96_1 rfl rfl).trans ?_
  refine (bu (ls'' := [some (.ref l0), some (.int l1), some (.int l2)]) (st' := [.int (nI 0), .ref l0]) bf96_1 bf96_2 rfl rfl).trans ?_
  exact bh bf96_2 bf96_5 rfl (bge_pf) rfl
theorem bk96_5 {w : am_Wd} {l0 : Nat} {l1 : Int32} {l2 : Int32} : am_run 96 5 [some (.ref l0), some (.int l1), some (.int l2)] [] w = (am_kf w l0 11).bind fun _ => (am_x 40 [.ref l0, .int l1, .int l2] w).bind fun r => bct r fun v w' => am_run 96 11 [none, none, none] (v.toList ++ []) w' := by
  refine (bu (ls'' := [none, some (.int l1), some (.int l2)]) (st' := [.ref l0]) bf96_5 bf96_6 rfl rfl).trans ?_
  refine (bu (ls'' := [none, none, some (.int l2)]) (st' := [.int l1, .ref l0]) bf96_6 bf96_7 rfl rfl).trans ?_
  refine (bu (ls'' := [none, none, none]) (st' := [.int l2, .int l1, .ref l0]) bf96_7 bf96_8 rfl rfl).trans ?_
  exact bkV bf96_8 bf96_11 rfl (by decide +kernel) (Nat.le_of_ble_eq_true rfl) rfl (bhd rfl)
theorem bk96_11 {w : am_Wd} {s0 : Int32} (hb : am_ok (am_rt 1) (.int s0) = true) : am_run 96 11 [none, none, none] [.int s0] w = some (.inl (some (.int s0)), w) := by
  exact am_e2 bf96_11 (by unfold am_stp; exact if_pos ⟨by decide, hb⟩) (am_ge_rf w)
theorem bf97_0 : am_fetch (am_mth 97) 0 = some (.iload_n 0, 1, [], []) := by decide +kernel
theorem bf97_1 : am_fetch (am_mth 97) 1 = some (.iconst 0, 1, [], [0]) := by decide +kernel
theorem bf97_2 : am_fetch (am_mth 97) 2 = some (.bipush 35, 2, [], [0]) := by decide +kernel
theorem bf97_4 : am_fetch (am_mth 97) 4 = some (.invokestatic 42, 3, [0, 39, 3, 1245, 1246, 48], [0]) := by decide +kernel
theorem bf97_7 : am_fetch (am_mth 97) 7 = some (.ifCond .ne 7, 3, [], [0]) := by decide +kernel
theorem bf97_10 : am_fetch (am_mth 97) 10 = some (.iconst 1, 1, [], [0]) := by decide +kernel
theorem bf97_11 : am_fetch (am_mth 97) 11 = some (.goto 4, 3, [], [0]) := by decide +kernel
theorem bf97_14 : am_fetch (am_mth 97) 14 = some (.iconst 0, 1, [], [0]) := by decide +kernel
theorem bf97_15 : am_fetch (am_mth 97) 15 = some (.ireturn, 1, [1], [0]) := by decide +kernel
theorem bk97_0 {w : am_Wd} {l0 : Int32} : am_run 97 0 [some (.int l0)] [] w = (am_x 39 [.int l0, .int (nI 0), .int (nI 35)] w).bind fun r => bct r fun v w' => am_run 97 7 [none] (v.toList ++ []) w' := by
  refine (bu (ls'' := [none]) (st' := [.int l0]) bf97_0 bf97_1 rfl rfl).trans ?_
  refine (bu (ls'' := [none]) (st' := [.int (nI 0), .int l0]) bf97_1 bf97_2 rfl rfl).trans ?_
  refine (bu (ls'' := [none]) (st' := [.int (nI 35), .int (nI 0), .int l0]) bf97_2 bf97_4 rfl rfl).trans ?_
  exact bkS bf97_4 bf97_7 rfl (by decide +kernel) (Nat.le_of_ble_eq_true rfl) rfl (bhd rfl)
theorem bk97_7 {w : am_Wd} {s0 : Int32} : am_run 97 7 [none] [.int s0] w = if ¬ s0 = nI 0 then am_run 97 14 [none] [] w else am_run 97 10 [none] [] w := by
  exact bifc bf97_7 rfl bf97_14 bf97_10 rfl rfl rfl
theorem bk97_14 {w : am_Wd}  : am_run 97 14 [none] [] w = am_run 97 15 [none] [.int (nI 0)] w := by
  refine (bu (ls'' := [none]) (st' := [.int (nI 0)]) bf97_14 bf97_15 rfl rfl).trans ?_
  rfl
theorem bk97_10 {w : am_Wd}  : am_run 97 10 [none] [] w = am_run 97 15 [none] [.int (nI 1)] w := by
  refine (bu (ls'' := [none]) (st' := [.int (nI 1)]) bf97_10 bf97_11 rfl rfl).trans ?_
  refine (bu (ls'' := [none]) (st' := [.int (nI 1)]) bf97_11 bf97_15 rfl rfl).trans ?_
  rfl
theorem bk97_15 {w : am_Wd} {s0 : Int32} (hb : am_ok (am_rt 1) (.int s0) = true) : am_run 97 15 [none] [.int s0] w = some (.inl (some (.int s0)), w) := by
  exact am_e2 bf97_15 (by unfold am_stp; exact if_pos ⟨by decide, hb⟩) (am_ge_rf w)
theorem bf98_0 : am_fetch (am_mth 98) 0 = some (.iload_n 0, 1, [], []) := by decide +kernel
theorem bf98_1 : am_fetch (am_mth 98) 1 = some (.iconst 0, 1, [], [0]) := by decide +kernel
theorem bf98_2 : am_fetch (am_mth 98) 2 = some (.iconst 3, 1, [], [0]) := by decide +kernel
theorem bf98_3 : am_fetch (am_mth 98) 3 = some (.invokestatic 42, 3, [0, 39, 3, 1245, 1246, 48], [0]) := by decide +kernel
theorem bf98_6 : am_fetch (am_mth 98) 6 = some (.ifCond .ne 7, 3, [], [0]) := by decide +kernel
theorem bf98_9 : am_fetch (am_mth 98) 9 = some (.iconst 1, 1, [], [0]) := by decide +kernel
theorem bf98_10 : am_fetch (am_mth 98) 10 = some (.goto 4, 3, [], [0]) := by decide +kernel
theorem bf98_13 : am_fetch (am_mth 98) 13 = some (.iconst 0, 1, [], [0]) := by decide +kernel
theorem bf98_14 : am_fetch (am_mth 98) 14 = some (.ireturn, 1, [1], [0]) := by decide +kernel
theorem bk98_0 {w : am_Wd} {l0 : Int32} : am_run 98 0 [some (.int l0)] [] w = (am_x 39 [.int l0, .int (nI 0), .int (nI 3)] w).bind fun r => bct r fun v w' => am_run 98 6 [none] (v.toList ++ []) w' := by
  refine (bu (ls'' := [none]) (st' := [.int l0]) bf98_0 bf98_1 rfl rfl).trans ?_
  refine (bu (ls'' := [none]) (st' := [.int (nI 0), .int l0]) bf98_1 bf98_2 rfl rfl).trans ?_
  refine (bu (ls'' := [none]) (st' := [.int (nI 3), .int (nI 0), .int l0]) bf98_2 bf98_3 rfl rfl).trans ?_
  exact bkS bf98_3 bf98_6 rfl (by decide +kernel) (Nat.le_of_ble_eq_true rfl) rfl (bhd rfl)
theorem bk98_6 {w : am_Wd} {s0 : Int32} : am_run 98 6 [none] [.int s0] w = if ¬ s0 = nI 0 then am_run 98 13 [none] [] w else am_run 98 9 [none] [] w := by
  exact bifc bf98_6 rfl bf98_13 bf98_9 rfl rfl rfl
theorem bk98_13 {w : am_Wd}  : am_run 98 13 [none] [] w = am_run 98 14 [none] [.int (nI 0)] w := by
  refine (bu (ls'' := [none]) (st' := [.int (nI 0)]) bf98_13 bf98_14 rfl rfl).trans ?_
  rfl
theorem bk98_9 {w : am_Wd}  : am_run 98 9 [none] [] w = am_run 98 14 [none] [.int (nI 1)] w := by
  refine (bu (ls'' := [none]) (st' := [.int (nI 1)]) bf98_9 bf98_10 rfl rfl).trans ?_
  refine (bu (ls'' := [none]) (st' := [.int (nI 1)]) bf98_10 bf98_14 rfl rfl).trans ?_
  rfl
theorem bk98_14 {w : am_Wd} {s0 : Int32} (hb : am_ok (am_rt 1) (.int s0) = true) : am_run 98 14 [none] [.int s0] w = some (.inl (some (.int s0)), w) := by
  exact am_e2 bf98_14 (by unfold am_stp; exact if_pos ⟨by decide, hb⟩) (am_ge_rf w)
theorem bf99_0 : am_fetch (am_mth 99) 0 = some (.iload_n 1, 1, [], []) := by decide +kernel
theorem bf99_1 : am_fetch (am_mth 99) 1 = some (.iconst 0, 1, [], [1]) := by decide +kernel
theorem bf99_2 : am_fetch (am_mth 99) 2 = some (.aload_n 0, 1, [], [1]) := by decide +kernel
theorem bf99_3 : am_fetch (am_mth 99) 3 = some (.getfield 31, 3, [0, 11, 11, 1208], [0, 1]) := by decide +kernel
theorem bf99_6 : am_fetch (am_mth 99) 6 = some (.invokevirtual 46, 3, [0, 56, 0, 3, 1291, 1292, 1293, 51], [0, 1]) := by decide +kernel
theorem bf99_9 : am_fetch (am_mth 99) 9 = some (.iconst 1, 1, [], [0, 1]) := by decide +kernel
theorem bf99_10 : am_fetch (am_mth 99) 10 = some (.isub, 1, [], [0, 1]) := by decide +kernel
theorem bf99_11 : am_fetch (am_mth 99) 11 = some (.invokestatic 42, 3, [0, 39, 3, 1245, 1246, 48], [0, 1]) := by decide +kernel
theorem bf99_14 : am_fetch (am_mth 99) 14 = some (.ifCond .ne 7, 3, [], [0, 1]) := by decide +kernel
theorem bf99_17 : am_fetch (am_mth 99) 17 = some (.iconst 1, 1, [], [0, 1]) := by decide +kernel
theorem bf99_18 : am_fetch (am_mth 99) 18 = some (.goto 4, 3, [], [0, 1]) := by decide +kernel
theorem bf99_21 : am_fetch (am_mth 99) 21 = some (.iconst 0, 1, [], [0, 1]) := by decide +kernel
theorem bf99_22 : am_fetch (am_mth 99) 22 = some (.ireturn, 1, [1], [0, 1]) := by decide +kernel
theorem bk99_0 {w : am_Wd} {l0 : Nat} {l1 : Int32} : am_run 99 0 [some (.ref l0), some (.int l1)] [] w = (am_gf w l0 11 11).bind fun v => am_run 99 6 [none, none] (v :: [.int (nI 0), .int l1]) w := by
  refine (bu (ls'' := [some (.ref l0), none]) (st' := [.int l1]) bf99_0 bf99_1 rfl rfl).trans ?_
  refine (bu (ls'' := [some (.ref l0), none]) (st' := [.int (nI 0), .int l1]) bf99_1 bf99_2 rfl rfl).trans ?_
  refine (bu (ls'' := [none, none]) (st' := [.ref l0, .int (nI 0), .int l1]) bf99_2 bf99_3 rfl rfl).trans ?_
  exact bh bf99_3 bf99_6 rfl (fun _ _ => am_ge_rf w) rfl
theorem bk99_6 {w : am_Wd} {s0 : Nat} {s1 : Int32} {s2 : Int32} : am_run 99 6 [none, none] [.ref s0, .int s1, .int s2] w = (am_kf w s0 3).bind fun _ => (am_x 56 [.ref s0] w).bind fun r => bct r fun v w' => am_run 99 9 [none, none] (v.toList ++ [.int s1, .int s2]) w' := by
  exact bkV bf99_6 bf99_9 rfl (by decide +kernel) (Nat.le_of_ble_eq_true rfl) rfl (bhd rfl)
theorem bk99_9 {w : am_Wd} {s0 : Int32} {s1 : Int32} {s2 : Int32} : am_run 99 9 [none, none] [.int s0, .int s1, .int s2] w = (am_x 39 [.int s2, .int s1, .int (s0 - (nI 1))] w).bind fun r => bct r fun v w' => am_run 99 14 [none, none] (v.toList ++ []) w' := by
  refine (bu (ls'' := [none, none]) (st' := [.int (nI 1), .int s0, .int s1, .int s2]) bf99_9 bf99_10 rfl rfl).trans ?_
  refine (bu (ls'' := [none, none]) (st' := [.int (s0 - (nI 1)), .int s1, .int s2]) bf99_10 bf99_11 rfl rfl).trans ?_
  exact bkS bf99_11 bf99_14 rfl (by decide +kernel) (Nat.le_of_ble_eq_true rfl) rfl (bhd rfl)
theorem bk99_14 {w : am_Wd} {s0 : Int32} : am_run 99 14 [none, none] [.int s0] w = if ¬ s0 = nI 0 then am_run 99 21 [none, none] [] w else am_run 99 17 [none, none] [] w := by
  exact bifc bf99_14 rfl bf99_21 bf99_17 rfl rfl rfl
theorem bk99_21 {w : am_Wd}  : am_run 99 21 [none, none] [] w = am_run 99 22 [none, none] [.int (nI 0)] w := by
  refine (bu (ls'' := [none, none]) (st' := [.int (nI 0)]) bf99_21 bf99_22 rfl rfl).trans ?_
  rfl
theorem bk99_17 {w : am_Wd}  : am_run 99 17 [none, none] [] w = am_run 99 22 [none, none] [.int (nI 1)] w := by
  refine (bu (ls'' := [none, none]) (st' := [.int (nI 1)]) bf99_17 bf99_18 rfl rfl).trans ?_
  refine (bu (ls'' := [none, none]) (st' := [.int (nI 1)]) bf99_18 bf99_22 rfl rfl).trans ?_
  rfl
theorem bk99_22 {w : am_Wd} {s0 : Int32} (hb : am_ok (am_rt 1) (.int s0) = true) : am_run 99 22 [none, none] [.int s0] w = some (.inl (some (.int s0)), w) := by
  exact am_e2 bf99_22 (by unfold am_stp; exact if_pos ⟨by decide, hb⟩) (am_ge_rf w)
theorem bf100_0 : am_fetch (am_mth 100) 0 = some (.iload_n 0, 1, [], [2, 3]) := by decide +kernel
theorem bf100_1 : am_fetch (am_mth 100) 1 = some (.bipush 6, 2, [], [2, 3]) := by decide +kernel
theorem bf100_3 : am_fetch (am_mth 100) 3 = some (.idiv, 1, [], [2, 3]) := by decide +kernel
theorem bf100_4 : am_fetch (am_mth 100) 4 = some (.iload_n 1, 1, [], [2, 3]) := by decide +kernel
theorem bf100_5 : am_fetch (am_mth 100) 5 = some (.ifCond .ne 7, 3, [], [2, 3]) := by decide +kernel
theorem bf100_8 : am_fetch (am_mth 100) 8 = some (.iconst (-1), 1, [], [2, 3]) := by decide +kernel
theorem bf100_9 : am_fetch (am_mth 100) 9 = some (.goto 13, 3, [], [2, 3]) := by decide +kernel
theorem bf100_12 : am_fetch (am_mth 100) 12 = some (.iload_n 1, 1, [], [2, 3]) := by decide +kernel
theorem bf100_13 : am_fetch (am_mth 100) 13 = some (.iconst 2, 1, [], [2, 3]) := by decide +kernel
theorem bf100_14 : am_fetch (am_mth 100) 14 = some (.if_icmp .ne 7, 3, [], [2, 3]) := by decide +kernel
theorem bf100_17 : am_fetch (am_mth 100) 17 = some (.iconst 1, 1, [], [2, 3]) := by decide +kernel
theorem bf100_18 : am_fetch (am_mth 100) 18 = some (.goto 4, 3, [], [2, 3]) := by decide +kernel
theorem bf100_21 : am_fetch (am_mth 100) 21 = some (.iconst 0, 1, [], [2, 3]) := by decide +kernel
theorem bf100_22 : am_fetch (am_mth 100) 22 = some (.iadd, 1, [], [2, 3]) := by decide +kernel
theorem bf100_23 : am_fetch (am_mth 100) 23 = some (.istore_n 2, 1, [], [2, 3]) := by decide +kernel
theorem bf100_24 : am_fetch (am_mth 100) 24 = some (.iload_n 0, 1, [], [3]) := by decide +kernel
theorem bf100_25 : am_fetch (am_mth 100) 25 = some (.bipush 6, 2, [], [0, 3]) := by decide +kernel
theorem bf100_27 : am_fetch (am_mth 100) 27 = some (.irem, 1, [], [0, 3]) := by decide +kernel
theorem bf100_28 : am_fetch (am_mth 100) 28 = some (.iload_n 1, 1, [], [0, 3]) := by decide +kernel
theorem bf100_29 : am_fetch (am_mth 100) 29 = some (.iconst 1, 1, [], [0, 3]) := by decide +kernel
theorem bf100_30 : am_fetch (am_mth 100) 30 = some (.if_icmp .ne 7, 3, [], [0, 3]) := by decide +kernel
theorem bf100_33 : am_fetch (am_mth 100) 33 = some (.iconst 1, 1, [], [0, 1, 3]) := by decide +kernel
theorem bf100_34 : am_fetch (am_mth 100) 34 = some (.goto 13, 3, [], [0, 1, 3]) := by decide +kernel
theorem bf100_37 : am_fetch (am_mth 100) 37 = some (.iload_n 1, 1, [], [0, 3]) := by decide +kernel
theorem bf100_38 : am_fetch (am_mth 100) 38 = some (.iconst 3, 1, [], [0, 1, 3]) := by decide +kernel
theorem bf100_39 : am_fetch (am_mth 100) 39 = some (.if_icmp .ne 7, 3, [], [0, 1, 3]) := by decide +kernel
theorem bf100_42 : am_fetch (am_mth 100) 42 = some (.iconst (-1), 1, [], [0, 1, 3]) := by decide +kernel
theorem bf100_43 : am_fetch (am_mth 100) 43 = some (.goto 4, 3, [], [0, 1, 3]) := by decide +kernel
theorem bf100_46 : am_fetch (am_mth 100) 46 = some (.iconst 0, 1, [], [0, 1, 3]) := by decide +kernel
theorem bf100_47 : am_fetch (am_mth 100) 47 = some (.iadd, 1, [], [0, 1, 3]) := by decide +kernel
theorem bf100_48 : am_fetch (am_mth 100) 48 = some (.istore_n 3, 1, [], [0, 1, 3]) := by decide +kernel
theorem bf100_49 : am_fetch (am_mth 100) 49 = some (.iload_n 2, 1, [], [0, 1]) := by decide +kernel
theorem bf100_50 : am_fetch (am_mth 100) 50 = some (.iconst 0, 1, [], [0, 1]) := by decide +kernel
theorem bf100_51 : am_fetch (am_mth 100) 51 = some (.iconst 5, 1, [], [0, 1]) := by decide +kernel
theorem bf100_52 : am_fetch (am_mth 100) 52 = some (.invokestatic 42, 3, [0, 39, 3, 1245, 1246, 48], [0, 1]) := by decide +kernel
theorem bf100_55 : am_fetch (am_mth 100) 55 = some (.ifCond .eq 21, 3, [], [0, 1]) := by decide +kernel
theorem bf100_58 : am_fetch (am_mth 100) 58 = some (.iload_n 3, 1, [], [0, 1]) := by decide +kernel
theorem bf100_59 : am_fetch (am_mth 100) 59 = some (.iconst 0, 1, [], [0, 1]) := by decide +kernel
theorem bf100_60 : am_fetch (am_mth 100) 60 = some (.iconst 5, 1, [], [0, 1]) := by decide +kernel
theorem bf100_61 : am_fetch (am_mth 100) 61 = some (.invokestatic 42, 3, [0, 39, 3, 1245, 1246, 48], [0, 1]) := by decide +kernel
theorem bf100_64 : am_fetch (am_mth 100) 64 = some (.ifCond .eq 12, 3, [], [0, 1]) := by decide +kernel
theorem bf100_67 : am_fetch (am_mth 100) 67 = some (.bipush 6, 2, [], [0, 1]) := by decide +kernel
theorem bf100_69 : am_fetch (am_mth 100) 69 = some (.iload_n 2, 1, [], [0, 1]) := by decide +kernel
theorem bf100_70 : am_fetch (am_mth 100) 70 = some (.imul, 1, [], [0, 1, 2]) := by decide +kernel
theorem bf100_71 : am_fetch (am_mth 100) 71 = some (.iload_n 3, 1, [], [0, 1, 2]) := by decide +kernel
theorem bf100_72 : am_fetch (am_mth 100) 72 = some (.iadd, 1, [], [0, 1, 2, 3]) := by decide +kernel
theorem bf100_73 : am_fetch (am_mth 100) 73 = some (.goto 4, 3, [], [0, 1, 2, 3]) := by decide +kernel
theorem bf100_76 : am_fetch (am_mth 100) 76 = some (.iconst (-1), 1, [], [0, 1, 2, 3]) := by decide +kernel
theorem bf100_77 : am_fetch (am_mth 100) 77 = some (.ireturn, 1, [0], [0, 1, 2, 3]) := by decide +kernel
theorem bk100_0 {w : am_Wd} {l0 : Int32} {l1 : Int32} : am_run 100 0 [some (.int l0), some (.int l1), none, none] [] w = if ¬ l1 = nI 0 then am_run 100 12 [some (.int l0), some (.int l1), none, none] [.int (l0 / (nI 6))] w else am_run 100 8 [some (.int l0), some (.int l1), none, none] [.int (l0 / (nI 6))] w := by
  refine (bu (ls'' := [some (.int l0), some (.int l1), none, none]) (st' := [.int l0]) bf100_0 bf100_1 rfl rfl).trans ?_
  refine (bu (ls'' := [some (.int l0), some (.int l1), none, none]) (st' := [.int (nI 6), .int l0]) bf100_1 bf100_3 rfl rfl).trans ?_
  refine (bu (ls'' := [some (.int l0), some (.int l1), none, none]) (st' := [.int (l0 / (nI 6))]) bf100_3 bf100_4 rfl rfl).trans ?_
  refine (bu (ls'' := [some (.int l0), some (.int l1), none, none]) (st' := [.int l1, .int (l0 / (nI 6))]) bf100_4 bf100_5 rfl rfl).trans ?_
  exact bifc bf100_5 rfl bf100_12 bf100_8 rfl rfl rfl
theorem bk100_12 {w : am_Wd} {l0 : Int32} {l1 : Int32} {s0 : Int32} : am_run 100 12 [some (.int l0), some (.int l1), none, none] [.int s0] w = if ¬ l1 = (nI 2) then am_run 100 21 [some (.int l0), some (.int l1), none, none] [.int s0] w else am_run 100 17 [some (.int l0), some (.int l1), none, none] [.int s0] w := by
  refine (bu (ls'' := [some (.int l0), some (.int l1), none, none]) (st' := [.int l1, .int s0]) bf100_12 bf100_13 rfl rfl).trans ?_
  refine (bu (ls'' := [some (.int l0), some (.int l1), none, none]) (st' := [.int (nI 2), .int l1, .int s0]) bf100_13 bf100_14 rfl rfl).trans ?_
  exact bic bf100_14 rfl bf100_21 bf100_17 rfl rfl rfl
theorem bk100_8 {w : am_Wd} {l0 : Int32} {l1 : Int32} {s0 : Int32} : am_run 100 8 [some (.int l0), some (.int l1), none, none] [.int s0] w = am_run 100 22 [some (.int l0), some (.int l1), none, none] [.int (-1 : Int32), .int s0] w := by
  refine (bu (ls'' := [some (.int l0), some (.int l1), none, none]) (st' := [.int (-1 : Int32), .int s0]) bf100_8 bf100_9 rfl rfl).trans ?_
  refine (bu (ls'' := [some (.int l0), some (.int l1), none, none]) (st' := [.int (-1 : Int32), .int s0]) bf100_9 bf100_22 rfl rfl).trans ?_
  rfl
theorem bk100_21 {w : am_Wd} {l0 : Int32} {l1 : Int32} {s0 : Int32} : am_run 100 21 [some (.int l0), some (.int l1), none, none] [.int s0] w = am_run 100 22 [some (.int l0), some (.int l1), none, none] [.int (nI 0), .int s0] w := by
  refine (bu (ls'' := [some (.int l0), some (.int l1), none, none]) (st' := [.int (nI 0), .int s0]) bf100_21 bf100_22 rfl rfl).trans ?_
  rfl
theorem bk100_17 {w : am_Wd} {l0 : Int32} {l1 : Int32} {s0 : Int32} : am_run 100 17 [some (.int l0), some (.int l1), none, none] [.int s0] w = am_run 100 22 [some (.int l0), some (.int l1), none, none] [.int (nI 1), .int s0] w := by
  refine (bu (ls'' := [some (.int l0), some (.int l1), none, none]) (st' := [.int (nI 1), .int s0]) bf100_17 bf100_18 rfl rfl).trans ?_
  refine (bu (ls'' := [some (.int l0), some (.int l1), none, none]) (st' := [.int (nI 1), .int s0]) bf100_18 bf100_22 rfl rfl).trans ?_
  rfl
theorem bk100_22 {w : am_Wd} {l0 : Int32} {l1 : Int32} {s0 : Int32} {s1 : Int32} : am_run 100 22 [some (.int l0), some (.int l1), none, none] [.int s0, .int s1] w = if ¬ l1 = (nI 1) then am_run 100 37 [none, some (.int l1), some (.int (s1 + s0)), none] [.int (bj_irem l0 (nI 6))] w else am_run 100 33 [none, none, some (.int (s1 + s0)), none] [.int (bj_irem l0 (nI 6))] w := by
  refine (bu (ls'' := [some (.int l0), some (.int l1), none, none]) (st' := [.int (s1 + s0)]) bf100_22 bf100_23 rfl rfl).trans ?_
  refine (bu (ls'' := [some (.int l0), some (.int l1), some (.int (s1 + s0)), none]) (st' := []) bf100_23 bf100_24 rfl rfl).trans ?_
  refine (bu (ls'' := [none, some (.int l1), some (.int (s1 + s0)), none]) (st' := [.int l0]) bf100_24 bf100_25 rfl rfl).trans ?_
  refine (bu (ls'' := [none, some (.int l1), some (.int (s1 + s0)), none]) (st' := [.int (nI 6), .int l0]) bf100_25 bf100_27 rfl rfl).trans ?_
  refine (bu (ls'' := [none, some (.int l1), some (.int (s1 + s0)), none]) (st' := [.int (bj_irem l0 (nI 6))]) bf100_27 bf100_28 rfl rfl).trans ?_
  refine (bu (ls'' := [none, some (.int l1), some (.int (s1 + s0)), none]) (st' := [.int l1, .int (bj_irem l0 (nI 6))]) bf100_28 bf100_29 rfl rfl).trans ?_
  refine (bu (ls'' := [none, some (.int l1), some (.int (s1 + s0)), none]) (st' := [.int (nI 1), .int l1, .int (bj_irem l0 (nI 6))]) bf100_29 bf100_30 rfl rfl).trans ?_
  exact bic bf100_30 rfl bf100_37 bf100_33 rfl rfl rfl
theorem bk100_37 {w : am_Wd} {l1 : Int32} {l2 : Int32} {s0 : Int32} : am_run 100 37 [none, some (.int l1), some (.int l2), none] [.int s0] w = if ¬ l1 = (nI 3) then am_run 100 46 [none, none, some (.int l2), none] [.int s0] w else am_run 100 42 [none, none, some (.int l2), none] [.int s0] w := by
  refine (bu (ls'' := [none, none, some (.int l2), none]) (st' := [.int l1, .int s0]) bf100_37 bf100_38 rfl rfl).trans ?_
  refine (bu (ls'' := [none, none, some (.int l2), none]) (st' := [.int (nI 3), .int l1, .int s0]) bf100_38 bf100_39 rfl rfl).trans ?_
  exact bic bf100_39 rfl bf100_46 bf100_42 rfl rfl rfl
theorem bk100_33 {w : am_Wd} {l2 : Int32} {s0 : Int32} : am_run 100 33 [none, none, some (.int l2), none] [.int s0] w = am_run 100 47 [none, none, some (.int l2), none] [.int (nI 1), .int s0] w := by
  refine (bu (ls'' := [none, none, some (.int l2), none]) (st' := [.int (nI 1), .int s0]) bf100_33 bf100_34 rfl rfl).trans ?_
  refine (bu (ls'' := [none, none, some (.int l2), none]) (st' := [.int (nI 1), .int s0]) bf100_34 bf100_47 rfl rfl).trans ?_
  rfl
theorem bk100_46 {w : am_Wd} {l2 : Int32} {s0 : Int32} : am_run 100 46 [none, none, some (.int l2), none] [.int s0] w = am_run 100 47 [none, none, some (.int l2), none] [.int (nI 0), .int s0] w := by
  refine (bu (ls'' := [none, none, some (.int l2), none]) (st' := [.int (nI 0), .int s0]) bf100_46 bf100_47 rfl rfl).trans ?_
  rfl
theorem bk100_42 {w : am_Wd} {l2 : Int32} {s0 : Int32} : am_run 100 42 [none, none, some (.int l2), none] [.int s0] w = am_run 100 47 [none, none, some (.int l2), none] [.int (-1 : Int32), .int s0] w := by
  refine (bu (ls'' := [none, none, some (.int l2), none]) (st' := [.int (-1 : Int32), .int s0]) bf100_42 bf100_43 rfl rfl).trans ?_
  refine (bu (ls'' := [none, none, some (.int l2), none]) (st' := [.int (-1 : Int32), .int s0]) bf100_43 bf100_47 rfl rfl).trans ?_
  rfl
theorem bk100_47 {w : am_Wd} {l2 : Int32} {s0 : Int32} {s1 : Int32} : am_run 100 47 [none, none, some (.int l2), none] [.int s0, .int s1] w = (am_x 39 [.int l2, .int (nI 0), .int (nI 5)] w).bind fun r => bct r fun v w' => am_run 100 55 [none, none, some (.int l2), some (.int (s1 + s0))] (v.toList ++ []) w' := by
  refine (bu (ls'' := [none, none, some (.int l2), none]) (st' := [.int (s1 + s0)]) bf100_47 bf100_48 rfl rfl).trans ?_
  refine (bu (ls'' := [none, none, some (.int l2), some (.int (s1 + s0))]) (st' := []) bf100_48 bf100_49 rfl rfl).trans ?_
  refine (bu (ls'' := [none, none, some (.int l2), some (.int (s1 + s0))]) (st' := [.int l2]) bf100_49 bf100_50 rfl rfl).trans ?_
  refine (bu (ls'' := [none, none, some (.int l2), some (.int (s1 + s0))]) (st' := [.int (nI 0), .int l2]) bf100_50 bf100_51 rfl rfl).trans ?_
  refine (bu (ls'' := [none, none, some (.int l2), some (.int (s1 + s0))]) (st' := [.int (nI 5), .int (nI 0), .int l2]) bf100_51 bf100_52 rfl rfl).trans ?_
  exact bkS bf100_52 bf100_55 rfl (by decide +kernel) (Nat.le_of_ble_eq_true rfl) rfl (bhd rfl)
theorem bk100_55 {w : am_Wd} {l2 : Int32} {l3 : Int32} {s0 : Int32} : am_run 100 55 [none, none, some (.int l2), some (.int l3)] [.int s0] w = if s0 = nI 0 then am_run 100 76 [none, none, none, none] [] w else am_run 100 58 [none, none, some (.int l2), some (.int l3)] [] w := by
  exact bifc bf100_55 rfl bf100_76 bf100_58 rfl rfl rfl
theorem bk100_76 {w : am_Wd}  : am_run 100 76 [none, none, none, none] [] w = am_run 100 77 [none, none, none, none] [.int (-1 : Int32)] w := by
  refine (bu (ls'' := [none, none, none, none]) (st' := [.int (-1 : Int32)]) bf100_76 bf100_77 rfl rfl).trans ?_
  rfl
theorem bk100_58 {w : am_Wd} {l2 : Int32} {l3 : Int32} : am_run 100 58 [none, none, some (.int l2), some (.int l3)] [] w = (am_x 39 [.int l3, .int (nI 0), .int (nI 5)] w).bind fun r => bct r fun v w' => am_run 100 64 [none, none, some (.int l2), some (.int l3)] (v.toList ++ []) w' := by
  refine (bu (ls'' := [none, none, some (.int l2), some (.int l3)]) (st' := [.int l3]) bf100_58 bf100_59 rfl rfl).trans ?_
  refine (bu (ls'' := [none, none, some (.int l2), some (.int l3)]) (st' := [.int (nI 0), .int l3]) bf100_59 bf100_60 rfl rfl).trans ?_
  refine (bu (ls'' := [none, none, some (.int l2), some (.int l3)]) (st' := [.int (nI 5), .int (nI 0), .int l3]) bf100_60 bf100_61 rfl rfl).trans ?_
  exact bkS bf100_61 bf100_64 rfl (by decide +kernel) (Nat.le_of_ble_eq_true rfl) rfl (bhd rfl)
theorem bk100_77 {w : am_Wd} {s0 : Int32} : am_run 100 77 [none, none, none, none] [.int s0] w = some (.inl (some (.int s0)), w) := by
  exact am_e2 bf100_77 rfl (am_ge_rf w)
theorem bk100_64 {w : am_Wd} {l2 : Int32} {l3 : Int32} {s0 : Int32} : am_run 100 64 [none, none, some (.int l2), some (.int l3)] [.int s0] w = if s0 = nI 0 then am_run 100 76 [none, none, none, none] [] w else am_run 100 67 [none, none, some (.int l2), some (.int l3)] [] w := by
  exact bifc bf100_64 rfl bf100_76 bf100_67 rfl rfl rfl
theorem bk100_67 {w : am_Wd} {l2 : Int32} {l3 : Int32} : am_run 100 67 [none, none, some (.int l2), some (.int l3)] [] w = am_run 100 77 [none, none, none, none] [.int (((nI 6) * l2) + l3)] w := by
  refine (bu (ls'' := [none, none, some (.int l2), some (.int l3)]) (st' := [.int (nI 6)]) bf100_67 bf100_69 rfl rfl).trans ?_
  refine (bu (ls'' := [none, none, none, some (.int l3)]) (st' := [.int l2, .int (nI 6)]) bf100_69 bf100_70 rfl rfl).trans ?_
  refine (bu (ls'' := [none, none, none, some (.int l3)]) (st' := [.int ((nI 6) * l2)]) bf100_70 bf100_71 rfl rfl).trans ?_
  refine (bu (ls'' := [none, none, none, none]) (st' := [.int l3, .int ((nI 6) * l2)]) bf100_71 bf100_72 rfl rfl).trans ?_
  refine (bu (ls'' := [none, none, none, none]) (st' := [.int (((nI 6) * l2) + l3)]) bf100_72 bf100_73 rfl rfl).trans ?_
  refine (bu (ls'' := [none, none, none, none]) (st' := [.int (((nI 6) * l2) + l3)]) bf100_73 bf100_77 rfl rfl).trans ?_
  rfl
theorem bf101_0 : am_fetch (am_mth 101) 0 = some (.aload_n 0, 1, [], []) := by decide +kernel
theorem bf101_1 : am_fetch (am_mth 101) 1 = some (.getfield 15, 3, [0, 11, 7, 1204], []) := by decide +kernel
theorem bf101_4 : am_fetch (am_mth 101) 4 = some (.iload_n 1, 1, [], []) := by decide +kernel
theorem bf101_5 : am_fetch (am_mth 101) 5 = some (.aaload, 1, [], []) := by decide +kernel
theorem bf101_6 : am_fetch (am_mth 101) 6 = some (.iload_n 2, 1, [], []) := by decide +kernel
theorem bf101_7 : am_fetch (am_mth 101) 7 = some (.iaload, 1, [], []) := by decide +kernel
theorem bf101_8 : am_fetch (am_mth 101) 8 = some (.iconst 1, 1, [], []) := by decide +kernel
theorem bf101_9 : am_fetch (am_mth 101) 9 = some (.if_icmp .eq 24, 3, [], []) := by decide +kernel
theorem bf101_12 : am_fetch (am_mth 101) 12 = some (.aload_n 0, 1, [], []) := by decide +kernel
theorem bf101_13 : am_fetch (am_mth 101) 13 = some (.getfield 15, 3, [0, 11, 7, 1204], []) := by decide +kernel
theorem bf101_16 : am_fetch (am_mth 101) 16 = some (.iload_n 1, 1, [], []) := by decide +kernel
theorem bf101_17 : am_fetch (am_mth 101) 17 = some (.aaload, 1, [], []) := by decide +kernel
theorem bf101_18 : am_fetch (am_mth 101) 18 = some (.iload_n 2, 1, [], []) := by decide +kernel
theorem bf101_19 : am_fetch (am_mth 101) 19 = some (.iaload, 1, [], []) := by decide +kernel
theorem bf101_20 : am_fetch (am_mth 101) 20 = some (.iconst 2, 1, [], []) := by decide +kernel
theorem bf101_21 : am_fetch (am_mth 101) 21 = some (.if_icmp .ne 16, 3, [], []) := by decide +kernel
theorem bf101_24 : am_fetch (am_mth 101) 24 = some (.aload_n 0, 1, [], []) := by decide +kernel
theorem bf101_25 : am_fetch (am_mth 101) 25 = some (.iload_n 1, 1, [], [0]) := by decide +kernel
theorem bf101_26 : am_fetch (am_mth 101) 26 = some (.iload_n 2, 1, [], [0, 1]) := by decide +kernel
theorem bf101_27 : am_fetch (am_mth 101) 27 = some (.invokevirtual 57, 3, [0, 42, 2, 11, 1446, 1448, 32, 48], [0, 1, 2]) := by decide +kernel
theorem bf101_30 : am_fetch (am_mth 101) 30 = some (.ifCond .ne 7, 3, [], [0, 1, 2]) := by decide +kernel
theorem bf101_33 : am_fetch (am_mth 101) 33 = some (.iconst 1, 1, [], [0, 1, 2]) := by decide +kernel
theorem bf101_34 : am_fetch (am_mth 101) 34 = some (.goto 4, 3, [], [0, 1, 2]) := by decide +kernel
theorem bf101_37 : am_fetch (am_mth 101) 37 = some (.iconst 0, 1, [], [0, 1, 2]) := by decide +kernel
theorem bf101_38 : am_fetch (am_mth 101) 38 = some (.ireturn, 1, [1], [0, 1, 2]) := by decide +kernel
theorem bk101_0 {w : am_Wd} {l0 : Nat} {l1 : Int32} {l2 : Int32} : am_run 101 0 [some (.ref l0), some (.int l1), some (.int l2)] [] w = (am_gf w l0 11 7).bind fun v => am_run 101 4 [some (.ref l0), some (.int l1), some (.int l2)] (v :: []) w := by
  refine (bu (ls'' := [some (.ref l0), some (.int l1), some (.int l2)]) (st' := [.ref l0]) bf101_0 bf101_1 rfl rfl).trans ?_
  exact bh bf101_1 bf101_4 rfl (fun _ _ => am_ge_rf w) rfl
theorem bk101_4 {w : am_Wd} {l0 : Nat} {l1 : Int32} {l2 : Int32} {s0 : Nat} : am_run 101 4 [some (.ref l0), some (.int l1), some (.int l2)] [.ref s0] w = (am_rq w s0 l1).bind fun v => am_run 101 6 [some (.ref l0), some (.int l1), some (.int l2)] (v :: []) w := by
  refine (bu (ls'' := [some (.ref l0), some (.int l1), some (.int l2)]) (st' := [.int l1, .ref s0]) bf101_4 bf101_5 rfl rfl).trans ?_
  exact bh bf101_5 bf101_6 rfl (fun _ _ => am_ge_rf w) rfl
theorem bk101_6 {w : am_Wd} {l0 : Nat} {l1 : Int32} {l2 : Int32} {s0 : Nat} : am_run 101 6 [some (.ref l0), some (.int l1), some (.int l2)] [.ref s0] w = (am_ri 0 w s0 l2).bind fun v => am_run 101 8 [some (.ref l0), some (.int l1), some (.int l2)] (.int v :: []) w := by
  refine (bu (ls'' := [some (.ref l0), some (.int l1), some (.int l2)]) (st' := [.int l2, .ref s0]) bf101_6 bf101_7 rfl rfl).trans ?_
  exact bh bf101_7 bf101_8 rfl (fun _ _ => am_ge_rf w) rfl
theorem bk101_8 {w : am_Wd} {l0 : Nat} {l1 : Int32} {l2 : Int32} {s0 : Int32} : am_run 101 8 [some (.ref l0), some (.int l1), some (.int l2)] [.int s0] w = if s0 = (nI 1) then am_run 101 33 [none, none, none] [] w else am_run 101 12 [some (.ref l0), some (.int l1), some (.int l2)] [] w := by
  refine (bu (ls'' := [some (.ref l0), some (.int l1), some (.int l2)]) (st' := [.int (nI 1), .int s0]) bf101_8 bf101_9 rfl rfl).trans ?_
  exact bic bf101_9 rfl bf101_33 bf101_12 rfl rfl rfl
theorem bk101_33 {w : am_Wd}  : am_run 101 33 [none, none, none] [] w = am_run 101 38 [none, none, none] [.int (nI 1)] w := by
  refine (bu (ls'' := [none, none, none]) (st' := [.int (nI 1)]) bf101_33 bf101_34 rfl rfl).trans ?_
  refine (bu (ls'' := [none, none, none]) (st' := [.int (nI 1)]) bf101_34 bf101_38 rfl rfl).trans ?_
  rfl
theorem bk101_12 {w : am_Wd} {l0 : Nat} {l1 : Int32} {l2 : Int32} : am_run 101 12 [some (.ref l0), some (.int l1), some (.int l2)] [] w = (am_gf w l0 11 7).bind fun v => am_run 101 16 [some (.ref l0), some (.int l1), some (.int l2)] (v :: []) w := by
  refine (bu (ls'' := [some (.ref l0), some (.int l1), some (.int l2)]) (st' := [.ref l0]) bf101_12 bf101_13 rfl rfl).trans ?_
  exact bh bf101_13 bf101_16 rfl (fun _ _ => am_ge_rf w) rfl
theorem bk101_38 {w : am_Wd} {s0 : Int32} (hb : am_ok (am_rt 1) (.int s0) = true) : am_run 101 38 [none, none, none] [.int s0] w = some (.inl (some (.int s0)), w) := by
  exact am_e2 bf101_38 (by unfold am_stp; exact if_pos ⟨by decide, hb⟩) (am_ge_rf w)
theorem bk101_16 {w : am_Wd} {l0 : Nat} {l1 : Int32} {l2 : Int32} {s0 : Nat} : am_run 101 16 [some (.ref l0), some (.int l1), some (.int l2)] [.ref s0] w = (am_rq w s0 l1).bind fun v => am_run 101 18 [some (.ref l0), some (.int l1), some (.int l2)] (v :: []) w := by
  refine (bu (ls'' := [some (.ref l0), some (.int l1), some (.int l2)]) (st' := [.int l1, .ref s0]) bf101_16 bf101_17 rfl rfl).trans ?_
  exact bh bf101_17 bf101_18 rfl (fun _ _ => am_ge_rf w) rfl
theorem bk101_18 {w : am_Wd} {l0 : Nat} {l1 : Int32} {l2 : Int32} {s0 : Nat} : am_run 101 18 [some (.ref l0), some (.int l1), some (.int l2)] [.ref s0] w = (am_ri 0 w s0 l2).bind fun v => am_run 101 20 [some (.ref l0), some (.int l1), some (.int l2)] (.int v :: []) w := by
  refine (bu (ls'' := [some (.ref l0), some (.int l1), some (.int l2)]) (st' := [.int l2, .ref s0]) bf101_18 bf101_19 rfl rfl).trans ?_
  exact bh bf101_19 bf101_20 rfl (fun _ _ => am_ge_rf w) rfl
theorem bk101_20 {w : am_Wd} {l0 : Nat} {l1 : Int32} {l2 : Int32} {s0 : Int32} : am_run 101 20 [some (.ref l0), some (.int l1), some (.int l2)] [.int s0] w = if ¬ s0 = (nI 2) then am_run 101 37 [none, none, none] [] w else am_run 101 24 [some (.ref l0), some (.int l1), some (.int l2)] [] w := by
  refine (bu (ls'' := [some (.ref l0), some (.int l1), some (.int l2)]) (st' := [.int (nI 2), .int s0]) bf101_20 bf101_21 rfl rfl).trans ?_
  exact bic bf101_21 rfl bf101_37 bf101_24 rfl rfl rfl
theorem bk101_37 {w : am_Wd}  : am_run 101 37 [none, none, none] [] w = am_run 101 38 [none, none, none] [.int (nI 0)] w := by
  refine (bu (ls'' := [none, none, none]) (st' := [.int (nI 0)]) bf101_37 bf101_38 rfl rfl).trans ?_
  rfl
theorem bk101_24 {w : am_Wd} {l0 : Nat} {l1 : Int32} {l2 : Int32} : am_run 101 24 [some (.ref l0), some (.int l1), some (.int l2)] [] w = (am_kf w l0 11).bind fun _ => (am_x 42 [.ref l0, .int l1, .int l2] w).bind fun r => bct r fun v w' => am_run 101 30 [none, none, none] (v.toList ++ []) w' := by
  refine (bu (ls'' := [none, some (.int l1), some (.int l2)]) (st' := [.ref l0]) bf101_24 bf101_25 rfl rfl).trans ?_
  refine (bu (ls'' := [none, none, some (.int l2)]) (st' := [.int l1, .ref l0]) bf101_25 bf101_26 rfl rfl).trans ?_
  refine (bu (ls'' := [none, none, none]) (st' := [.int l2, .int l1, .ref l0]) bf101_26 bf101_27 rfl rfl).trans ?_
  exact bkV bf101_27 bf101_30 rfl (by decide +kernel) (Nat.le_of_ble_eq_true rfl) rfl (bhd rfl)
theorem bk101_30 {w : am_Wd} {s0 : Int32} : am_run 101 30 [none, none, none] [.int s0] w = if ¬ s0 = nI 0 then am_run 101 37 [none, none, none] [] w else am_run 101 33 [none, none, none] [] w := by
  exact bifc bf101_30 rfl bf101_37 bf101_33 rfl rfl rfl
theorem bf102_0 : am_fetch (am_mth 102) 0 = some (.aload_n 0, 1, [], []) := by decide +kernel
theorem bf102_1 : am_fetch (am_mth 102) 1 = some (.aload_n 1, 1, [], []) := by decide +kernel
theorem bf102_2 : am_fetch (am_mth 102) 2 = some (.putfield 97, 3, [0, 10, 3, 1307], [1]) := by decide +kernel
theorem bf102_5 : am_fetch (am_mth 102) 5 = some (.aload_n 0, 1, [], [1]) := by decide +kernel
theorem bf102_6 : am_fetch (am_mth 102) 6 = some (.invokevirtual 143, 3, [0, 37, 0, 10, 1459, 1408, 1409, 66], [1]) := by decide +kernel
theorem bf102_9 : am_fetch (am_mth 102) 9 = some (.ifCond .le 4, 3, [], [1]) := by decide +kernel
theorem bf102_12 : am_fetch (am_mth 102) 12 = some (.return_, 1, [], [0, 1]) := by decide +kernel
theorem bf102_13 : am_fetch (am_mth 102) 13 = some (.aload_n 0, 1, [], [1]) := by decide +kernel
theorem bf102_14 : am_fetch (am_mth 102) 14 = some (.invokestatic 110, 3, [0, 45, 1, 1333, 1334, 48], [1]) := by decide +kernel
theorem bf102_17 : am_fetch (am_mth 102) 17 = some (.aload_n 0, 1, [], [1]) := by decide +kernel
theorem bf102_18 : am_fetch (am_mth 102) 18 = some (.dup, 1, [], [0, 1]) := by decide +kernel
theorem bf102_19 : am_fetch (am_mth 102) 19 = some (.getfield 146, 3, [0, 10, 5, 1310], [0, 1]) := by decide +kernel
theorem bf102_22 : am_fetch (am_mth 102) 22 = some (.iconst 1, 1, [], [0, 1]) := by decide +kernel
theorem bf102_23 : am_fetch (am_mth 102) 23 = some (.iadd, 1, [], [0, 1]) := by decide +kernel
theorem bf102_24 : am_fetch (am_mth 102) 24 = some (.putfield 146, 3, [0, 10, 5, 1310], [0, 1]) := by decide +kernel
theorem bf102_27 : am_fetch (am_mth 102) 27 = some (.return_, 1, [], [0, 1]) := by decide +kernel
theorem bk102_0 {w : am_Wd} {l0 : Nat} {l1 : Nat} : am_run 102 0 [some (.ref l0), some (.ref l1)] [] w = (am_pf w l0 10 3 (.ref l1)).bind fun w' => am_run 102 5 [some (.ref l0), none] [] w' := by
  refine (bu (ls'' := [some (.ref l0), some (.ref l1)]) (st' := [.ref l0]) bf102_0 bf102_1 rfl rfl).trans ?_
  refine (bu (ls'' := [some (.ref l0), none]) (st' := [.ref l1, .ref l0]) bf102_1 bf102_2 rfl rfl).trans ?_
  exact bh bf102_2 bf102_5 rfl (bge_pf) rfl
theorem bk102_5 {w : am_Wd} {l0 : Nat} : am_run 102 5 [some (.ref l0), none] [] w = (am_kf w l0 10).bind fun _ => (am_x 37 [.ref l0] w).bind fun r => bct r fun v w' => am_run 102 9 [some (.ref l0), none] (v.toList ++ []) w' := by
  refine (bu (ls'' := [some (.ref l0), none]) (st' := [.ref l0]) bf102_5 bf102_6 rfl rfl).trans ?_
  exact bkV bf102_6 bf102_9 rfl (by decide +kernel) (Nat.le_of_ble_eq_true rfl) rfl (bhd rfl)
theorem bk102_9 {w : am_Wd} {l0 : Nat} {s0 : Int32} : am_run 102 9 [some (.ref l0), none] [.int s0] w = if s0 ≤ nI 0 then am_run 102 13 [some (.ref l0), none] [] w else am_run 102 12 [none, none] [] w := by
  exact bifc bf102_9 rfl bf102_13 bf102_12 rfl rfl rfl
theorem bk102_13 {w : am_Wd} {l0 : Nat} : am_run 102 13 [some (.ref l0), none] [] w = (am_x 45 [.ref l0] w).bind fun r => bct r fun v w' => am_run 102 17 [some (.ref l0), none] (v.toList ++ []) w' := by
  refine (bu (ls'' := [some (.ref l0), none]) (st' := [.ref l0]) bf102_13 bf102_14 rfl rfl).trans ?_
  exact bkS bf102_14 bf102_17 rfl (by decide +kernel) (Nat.le_of_ble_eq_true rfl) rfl (bhd rfl)
theorem bk102_12 {w : am_Wd}  : am_run 102 12 [none, none] [] w = some (.inl none, w) := by
  exact am_e2 bf102_12 rfl (am_ge_rf w)
theorem bk102_17 {w : am_Wd} {l0 : Nat} : am_run 102 17 [some (.ref l0), none] [] w = (am_gf w l0 10 5).bind fun v => am_run 102 22 [none, none] (v :: [.ref l0]) w := by
  refine (bu (ls'' := [none, none]) (st' := [.ref l0]) bf102_17 bf102_18 rfl rfl).trans ?_
  refine (bu (ls'' := [none, none]) (st' := [.ref l0, .ref l0]) bf102_18 bf102_19 rfl rfl).trans ?_
  exact bh bf102_19 bf102_22 rfl (fun _ _ => am_ge_rf w) rfl
theorem bk102_22 {w : am_Wd} {s0 : Int32} {s1 : Nat} : am_run 102 22 [none, none] [.int s0, .ref s1] w = (am_pf w s1 10 5 (.int (s0 + (nI 1)))).bind fun w' => am_run 102 27 [none, none] [] w' := by
  refine (bu (ls'' := [none, none]) (st' := [.int (nI 1), .int s0, .ref s1]) bf102_22 bf102_23 rfl rfl).trans ?_
  refine (bu (ls'' := [none, none]) (st' := [.int (s0 + (nI 1)), .ref s1]) bf102_23 bf102_24 rfl rfl).trans ?_
  exact bh bf102_24 bf102_27 rfl (bge_pf) rfl
theorem bk102_27 {w : am_Wd}  : am_run 102 27 [none, none] [] w = some (.inl none, w) := by
  exact am_e2 bf102_27 rfl (am_ge_rf w)
theorem bf103_0 : am_fetch (am_mth 103) 0 = some (.aload_n 0, 1, [], [1, 2]) := by decide +kernel
theorem bf103_1 : am_fetch (am_mth 103) 1 = some (.invokevirtual 31, 3, [0, 51, 0, 2, 1528, 1529, 1530, 72], [1, 2]) := by decide +kernel
theorem bf103_4 : am_fetch (am_mth 103) 4 = some (.aload_n 0, 1, [], [1, 2]) := by decide +kernel
theorem bf103_5 : am_fetch (am_mth 103) 5 = some (.getfield 25, 3, [0, 2, 0, 1496], [1, 2]) := by decide +kernel
theorem bf103_8 : am_fetch (am_mth 103) 8 = some (.istore_n 1, 1, [], [1, 2]) := by decide +kernel
theorem bf103_9 : am_fetch (am_mth 103) 9 = some (.iload_n 1, 1, [], [2]) := by decide +kernel
theorem bf103_10 : am_fetch (am_mth 103) 10 = some (.aload_n 0, 1, [], [2]) := by decide +kernel
theorem bf103_11 : am_fetch (am_mth 103) 11 = some (.getfield 1, 3, [0, 2, 3, 1499], [2]) := by decide +kernel
theorem bf103_14 : am_fetch (am_mth 103) 14 = some (.getfield 28, 3, [1, 3, 2, 1183], [2]) := by decide +kernel
theorem bf103_17 : am_fetch (am_mth 103) 17 = some (.if_icmp .lt 11, 3, [], [2]) := by decide +kernel
theorem bf103_20 : am_fetch (am_mth 103) 20 = some (.new 34, 3, [], [0, 1, 2]) := by decide +kernel
theorem bf103_23 : am_fetch (am_mth 103) 23 = some (.dup, 1, [], [0, 1, 2]) := by decide +kernel
theorem bf103_24 : am_fetch (am_mth 103) 24 = some (.invokespecial 36, 3, [], [0, 1, 2]) := by decide +kernel
theorem bf103_27 : am_fetch (am_mth 103) 27 = some (.athrow, 1, [], [0, 1, 2]) := by decide +kernel
theorem bf103_28 : am_fetch (am_mth 103) 28 = some (.aload_n 0, 1, [], [2]) := by decide +kernel
theorem bf103_29 : am_fetch (am_mth 103) 29 = some (.getfield 1, 3, [0, 2, 3, 1499], [2]) := by decide +kernel
theorem bf103_32 : am_fetch (am_mth 103) 32 = some (.getfield 37, 3, [0, 3, 1, 1182], [2]) := by decide +kernel
theorem bf103_35 : am_fetch (am_mth 103) 35 = some (.astore_n 2, 1, [], [2]) := by decide +kernel
theorem bf103_36 : am_fetch (am_mth 103) 36 = some (.iload_n 1, 1, [], []) := by decide +kernel
theorem bf103_37 : am_fetch (am_mth 103) 37 = some (.aload_n 2, 1, [], []) := by decide +kernel
theorem bf103_38 : am_fetch (am_mth 103) 38 = some (.arraylength, 1, [], []) := by decide +kernel
theorem bf103_39 : am_fetch (am_mth 103) 39 = some (.if_icmp .lt 11, 3, [], []) := by decide +kernel
theorem bf103_42 : am_fetch (am_mth 103) 42 = some (.new 41, 3, [], [0, 1, 2]) := by decide +kernel
theorem bf103_45 : am_fetch (am_mth 103) 45 = some (.dup, 1, [], [0, 1, 2]) := by decide +kernel
theorem bf103_46 : am_fetch (am_mth 103) 46 = some (.invokespecial 43, 3, [], [0, 1, 2]) := by decide +kernel
theorem bf103_49 : am_fetch (am_mth 103) 49 = some (.athrow, 1, [], [0, 1, 2]) := by decide +kernel
theorem bf103_50 : am_fetch (am_mth 103) 50 = some (.aload_n 0, 1, [], []) := by decide +kernel
theorem bf103_51 : am_fetch (am_mth 103) 51 = some (.iload_n 1, 1, [], []) := by decide +kernel
theorem bf103_52 : am_fetch (am_mth 103) 52 = some (.iconst 1, 1, [], []) := by decide +kernel
theorem bf103_53 : am_fetch (am_mth 103) 53 = some (.iadd, 1, [], []) := by decide +kernel
theorem bf103_54 : am_fetch (am_mth 103) 54 = some (.putfield 25, 3, [0, 2, 0, 1496], []) := by decide +kernel
theorem bf103_57 : am_fetch (am_mth 103) 57 = some (.aload_n 2, 1, [], []) := by decide +kernel
theorem bf103_58 : am_fetch (am_mth 103) 58 = some (.aload_n 0, 1, [], [2]) := by decide +kernel
theorem bf103_59 : am_fetch (am_mth 103) 59 = some (.iload_n 1, 1, [], [0, 2]) := by decide +kernel
theorem bf103_60 : am_fetch (am_mth 103) 60 = some (.dup_x1, 1, [], [0, 1, 2]) := by decide +kernel
theorem bf103_61 : am_fetch (am_mth 103) 61 = some (.putfield 13, 3, [0, 2, 1, 1497], [0, 1, 2]) := by decide +kernel
theorem bf103_64 : am_fetch (am_mth 103) 64 = some (.aaload, 1, [], [0, 1, 2]) := by decide +kernel
theorem bf103_65 : am_fetch (am_mth 103) 65 = some (.areturn, 1, [], [0, 1, 2]) := by decide +kernel
theorem bk103_0 {w : am_Wd} {l0 : Nat} : am_run 103 0 [some (.ref l0), none, none] [] w = (am_kf w l0 2).bind fun _ => (am_x 51 [.ref l0] w).bind fun r => bct r fun v w' => am_run 103 4 [some (.ref l0), none, none] (v.toList ++ []) w' := by
  refine (bu (ls'' := [some (.ref l0), none, none]) (st' := [.ref l0]) bf103_0 bf103_1 rfl rfl).trans ?_
  exact bkV bf103_1 bf103_4 rfl (by decide +kernel) (Nat.le_of_ble_eq_true rfl) rfl (bhd rfl)
theorem bk103_4 {w : am_Wd} {l0 : Nat} : am_run 103 4 [some (.ref l0), none, none] [] w = (am_gf w l0 2 0).bind fun v => am_run 103 8 [some (.ref l0), none, none] (v :: []) w := by
  refine (bu (ls'' := [some (.ref l0), none, none]) (st' := [.ref l0]) bf103_4 bf103_5 rfl rfl).trans ?_
  exact bh bf103_5 bf103_8 rfl (fun _ _ => am_ge_rf w) rfl
theorem bk103_8 {w : am_Wd} {l0 : Nat} {s0 : Int32} : am_run 103 8 [some (.ref l0), none, none] [.int s0] w = (am_gf w l0 2 3).bind fun v => am_run 103 14 [some (.ref l0), some (.int s0), none] (v :: [.int s0]) w := by
  refine (bu (ls'' := [some (.ref l0), some (.int s0), none]) (st' := []) bf103_8 bf103_9 rfl rfl).trans ?_
  refine (bu (ls'' := [some (.ref l0), some (.int s0), none]) (st' := [.int s0]) bf103_9 bf103_10 rfl rfl).trans ?_
  refine (bu (ls'' := [some (.ref l0), some (.int s0), none]) (st' := [.ref l0, .int s0]) bf103_10 bf103_11 rfl rfl).trans ?_
  exact bh bf103_11 bf103_14 rfl (fun _ _ => am_ge_rf w) rfl
theorem bk103_14 {w : am_Wd} {l0 : Nat} {l1 : Int32} {s0 : Nat} {s1 : Int32} : am_run 103 14 [some (.ref l0), some (.int l1), none] [.ref s0, .int s1] w = (am_gf w s0 3 2).bind fun v => am_run 103 17 [some (.ref l0), some (.int l1), none] (v :: [.int s1]) w := by
  exact bh bf103_14 bf103_17 rfl (fun _ _ => am_ge_rf w) rfl
theorem bk103_17 {w : am_Wd} {l0 : Nat} {l1 : Int32} {s0 : Int32} {s1 : Int32} : am_run 103 17 [some (.ref l0), some (.int l1), none] [.int s0, .int s1] w = if s1 < s0 then am_run 103 28 [some (.ref l0), some (.int l1), none] [] w else am_run 103 20 [none, none, none] [] w := by
  exact bic bf103_17 rfl bf103_28 bf103_20 rfl rfl rfl
theorem bk103_28 {w : am_Wd} {l0 : Nat} {l1 : Int32} : am_run 103 28 [some (.ref l0), some (.int l1), none] [] w = (am_gf w l0 2 3).bind fun v => am_run 103 32 [some (.ref l0), some (.int l1), none] (v :: []) w := by
  refine (bu (ls'' := [some (.ref l0), some (.int l1), none]) (st' := [.ref l0]) bf103_28 bf103_29 rfl rfl).trans ?_
  exact bh bf103_29 bf103_32 rfl (fun _ _ => am_ge_rf w) rfl
-- bk103_20: list index out of range
theorem bk103_32 {w : am_Wd} {l0 : Nat} {l1 : Int32} {s0 : Nat} : am_run 103 32 [some (.ref l0), some (.int l1), none] [.ref s0] w = (am_gf w s0 3 1).bind fun v => am_run 103 35 [some (.ref l0), some (.int l1), none] (v :: []) w := by
  exact bh bf103_32 bf103_35 rfl (fun _ _ => am_ge_rf w) rfl
theorem bk103_35 {w : am_Wd} {l0 : Nat} {l1 : Int32} {s0 : Nat} : am_run 103 35 [some (.ref l0), some (.int l1), none] [.ref s0] w = (am_len w s0).bind fun v => am_run 103 39 [some (.ref l0), some (.int l1), some (.ref s0)] (.int (nI v) :: [.int l1]) w := by
  refine (bu (ls'' := [some (.ref l0), some (.int l1), some (.ref s0)]) (st' := []) bf103_35 bf103_36 rfl rfl).trans ?_
  refine (bu (ls'' := [some (.ref l0), some (.int l1), some (.ref s0)]) (st' := [.int l1]) bf103_36 bf103_37 rfl rfl).trans ?_
  refine (bu (ls'' := [some (.ref l0), some (.int l1), some (.ref s0)]) (st' := [.ref s0, .int l1]) bf103_37 bf103_38 rfl rfl).trans ?_
  exact bh bf103_38 bf103_39 rfl (fun _ _ => am_ge_rf w) rfl
theorem bk103_39 {w : am_Wd} {l0 : Nat} {l1 : Int32} {l2 : Nat} {s0 : Int32} {s1 : Int32} : am_run 103 39 [some (.ref l0), some (.int l1), some (.ref l2)] [.int s0, .int s1] w = if s1 < s0 then am_run 103 50 [some (.ref l0), some (.int l1), some (.ref l2)] [] w else am_run 103 42 [none, none, none] [] w := by
  exact bic bf103_39 rfl bf103_50 bf103_42 rfl rfl rfl
theorem bk103_50 {w : am_Wd} {l0 : Nat} {l1 : Int32} {l2 : Nat} : am_run 103 50 [some (.ref l0), some (.int l1), some (.ref l2)] [] w = (am_pf w l0 2 0 (.int (l1 + (nI 1)))).bind fun w' => am_run 103 57 [some (.ref l0), some (.int l1), some (.ref l2)] [] w' := by
  refine (bu (ls'' := [some (.ref l0), some (.int l1), some (.ref l2)]) (st' := [.ref l0]) bf103_50 bf103_51 rfl rfl).trans ?_
  refine (bu (ls'' := [some (.ref l0), some (.int l1), some (.ref l2)]) (st' := [.int l1, .ref l0]) bf103_51 bf103_52 rfl rfl).trans ?_
  refine (bu (ls'' := [some (.ref l0), some (.int l1), some (.ref l2)]) (st' := [.int (nI 1), .int l1, .ref l0]) bf103_52 bf103_53 rfl rfl).trans ?_
  refine (bu (ls'' := [some (.ref l0), some (.int l1), some (.ref l2)]) (st' := [.int (l1 + (nI 1)), .ref l0]) bf103_53 bf103_54 rfl rfl).trans ?_
  exact bh bf103_54 bf103_57 rfl (bge_pf) rfl
-- bk103_42: list index out of range
theorem bk103_57 {w : am_Wd} {l0 : Nat} {l1 : Int32} {l2 : Nat} : am_run 103 57 [some (.ref l0), some (.int l1), some (.ref l2)] [] w = (am_pf w l0 2 1 (.int l1)).bind fun w' => am_run 103 64 [none, none, none] [.int l1, .ref l2] w' := by
  refine (bu (ls'' := [some (.ref l0), some (.int l1), none]) (st' := [.ref l2]) bf103_57 bf103_58 rfl rfl).trans ?_
  refine (bu (ls'' := [none, some (.int l1), none]) (st' := [.ref l0, .ref l2]) bf103_58 bf103_59 rfl rfl).trans ?_
  refine (bu (ls'' := [none, none, none]) (st' := [.int l1, .ref l0, .ref l2]) bf103_59 bf103_60 rfl rfl).trans ?_
  refine (bu (ls'' := [none, none, none]) (st' := [.int l1, .ref l0, .int l1, .ref l2]) bf103_60 bf103_61 rfl rfl).trans ?_
  exact bh bf103_61 bf103_64 rfl (bge_pf) rfl
theorem bk103_64 {w : am_Wd} {s0 : Int32} {s1 : Nat} : am_run 103 64 [none, none, none] [.int s0, .ref s1] w = (am_rq w s1 s0).bind fun v => am_run 103 65 [none, none, none] (v :: []) w := by
  exact bh bf103_64 bf103_65 rfl (fun _ _ => am_ge_rf w) rfl
theorem bk103_65 {w : am_Wd} {s0 : Nat} : am_run 103 65 [none, none, none] [.ref s0] w = some (.inl (some (.ref s0)), w) := by
  exact am_e2 bf103_65 rfl (am_ge_rf w)
theorem bf104_0 : am_fetch (am_mth 104) 0 = some (.aload_n 0, 1, [], []) := by decide +kernel
theorem bf104_1 : am_fetch (am_mth 104) 1 = some (.aload_n 0, 1, [], []) := by decide +kernel
theorem bf104_2 : am_fetch (am_mth 104) 2 = some (.getfield 48, 3, [0, 3, 2, 1184], [0]) := by decide +kernel
theorem bf104_5 : am_fetch (am_mth 104) 5 = some (.iconst 1, 1, [], [0]) := by decide +kernel
theorem bf104_6 : am_fetch (am_mth 104) 6 = some (.iadd, 1, [], [0]) := by decide +kernel
theorem bf104_7 : am_fetch (am_mth 104) 7 = some (.invokevirtual 69, 3, [0, 55, 1, 3, 1348, 1350, 23, 51], [0]) := by decide +kernel
theorem bf104_10 : am_fetch (am_mth 104) 10 = some (.areturn, 1, [], [0]) := by decide +kernel
theorem bk104_0 {w : am_Wd} {l0 : Nat} : am_run 104 0 [some (.ref l0)] [] w = (am_gf w l0 3 2).bind fun v => am_run 104 5 [none] (v :: [.ref l0]) w := by
  refine (bu (ls'' := [some (.ref l0)]) (st' := [.ref l0]) bf104_0 bf104_1 rfl rfl).trans ?_
  refine (bu (ls'' := [none]) (st' := [.ref l0, .ref l0]) bf104_1 bf104_2 rfl rfl).trans ?_
  exact bh bf104_2 bf104_5 rfl (fun _ _ => am_ge_rf w) rfl
theorem bk104_5 {w : am_Wd} {s0 : Int32} {s1 : Nat} : am_run 104 5 [none] [.int s0, .ref s1] w = (am_kf w s1 3).bind fun _ => (am_x 55 [.ref s1, .int (s0 + (nI 1))] w).bind fun r => bct r fun v w' => am_run 104 10 [none] (v.toList ++ []) w' := by
  refine (bu (ls'' := [none]) (st' := [.int (nI 1), .int s0, .ref s1]) bf104_5 bf104_6 rfl rfl).trans ?_
  refine (bu (ls'' := [none]) (st' := [.int (s0 + (nI 1)), .ref s1]) bf104_6 bf104_7 rfl rfl).trans ?_
  exact bkV bf104_7 bf104_10 rfl (by decide +kernel) (Nat.le_of_ble_eq_true rfl) rfl (bhd rfl)
theorem bk104_10 {w : am_Wd} {s0 : Nat} : am_run 104 10 [none] [.ref s0] w = some (.inl (some (.ref s0)), w) := by
  exact am_e2 bf104_10 rfl (am_ge_rf w)
theorem bf105_0 : am_fetch (am_mth 105) 0 = some (.new 267, 3, [0, 2, 4, 1490, 1491, 72], []) := by decide +kernel
theorem bf105_3 : am_fetch (am_mth 105) 3 = some (.dup, 1, [], []) := by decide +kernel
theorem bf105_4 : am_fetch (am_mth 105) 4 = some (.aload_n 0, 1, [], []) := by decide +kernel
theorem bf105_5 : am_fetch (am_mth 105) 5 = some (.invokespecial 269, 3, [0, 53, 1, 1492, 1493, 72], [0]) := by decide +kernel
theorem bf105_8 : am_fetch (am_mth 105) 8 = some (.areturn, 1, [], [0]) := by decide +kernel
theorem bk105_0 {w : am_Wd} {l0 : Nat} : am_run 105 0 [some (.ref l0)] [] w = am_run 105 3 [some (.ref l0)] (.ref w.2.1 :: []) (am_nw w (.inr (2, am_df 2 4)) 4) := by
  exact bn bf105_0 bf105_3 rfl rfl (am_ge_nw _ _ _)
theorem bk105_3 {w : am_Wd} {l0 : Nat} {s0 : Nat} : am_run 105 3 [some (.ref l0)] [.ref s0] w = (am_x 53 [.ref s0, .ref l0] w).bind fun r => bct r fun v w' => am_run 105 8 [none] (v.toList ++ [.ref s0]) w' := by
  refine (bu (ls'' := [some (.ref l0)]) (st' := [.ref s0, .ref s0]) bf105_3 bf105_4 rfl rfl).trans ?_
  refine (bu (ls'' := [none]) (st' := [.ref l0, .ref s0, .ref s0]) bf105_4 bf105_5 rfl rfl).trans ?_
  exact bkS bf105_5 bf105_8 rfl (by decide +kernel) (Nat.le_of_ble_eq_true rfl) rfl (bhd rfl)
theorem bk105_8 {w : am_Wd} {s0 : Nat} : am_run 105 8 [none] [.ref s0] w = some (.inl (some (.ref s0)), w) := by
  exact am_e2 bf105_8 rfl (am_ge_rf w)
theorem bf106_0 : am_fetch (am_mth 106) 0 = some (.aload_n 0, 1, [], []) := by decide +kernel
theorem bf106_1 : am_fetch (am_mth 106) 1 = some (.invokespecial 1, 3, [0, 57, 0, 1175, 1176, 49], []) := by decide +kernel
theorem bf106_4 : am_fetch (am_mth 106) 4 = some (.aload_n 0, 1, [], []) := by decide +kernel
theorem bf106_5 : am_fetch (am_mth 106) 5 = some (.iconst 0, 1, [], [0]) := by decide +kernel
theorem bf106_6 : am_fetch (am_mth 106) 6 = some (.putfield 7, 3, [0, 3, 0, 1185], [0]) := by decide +kernel
theorem bf106_9 : am_fetch (am_mth 106) 9 = some (.return_, 1, [], [0]) := by decide +kernel
theorem bk106_0 {w : am_Wd} {l0 : Nat} : am_run 106 0 [some (.ref l0)] [] w = (am_x 57 [.ref l0] w).bind fun r => bct r fun v w' => am_run 106 4 [some (.ref l0)] (v.toList ++ []) w' := by
  refine (bu (ls'' := [some (.ref l0)]) (st' := [.ref l0]) bf106_0 bf106_1 rfl rfl).trans ?_
  exact bkS bf106_1 bf106_4 rfl (by decide +kernel) (Nat.le_of_ble_eq_true rfl) rfl (bhd rfl)
theorem bk106_4 {w : am_Wd} {l0 : Nat} : am_run 106 4 [some (.ref l0)] [] w = (am_pf w l0 3 0 (.int (nI 0))).bind fun w' => am_run 106 9 [none] [] w' := by
  refine (bu (ls'' := [none]) (st' := [.ref l0]) bf106_4 bf106_5 rfl rfl).trans ?_
  refine (bu (ls'' := [none]) (st' := [.int (nI 0), .ref l0]) bf106_5 bf106_6 rfl rfl).trans ?_
  exact bh bf106_6 bf106_9 rfl (bge_pf) rfl
theorem bk106_9 {w : am_Wd}  : am_run 106 9 [none] [] w = some (.inl none, w) := by
  exact am_e2 bf106_9 rfl (am_ge_rf w)
theorem bf107_0 : am_fetch (am_mth 107) 0 = some (.iload_n 0, 1, [], []) := by decide +kernel
theorem bf107_1 : am_fetch (am_mth 107) 1 = some (.iload_n 1, 1, [], [0]) := by decide +kernel
theorem bf107_2 : am_fetch (am_mth 107) 2 = some (.aconst_null, 1, [], [0, 1]) := by decide +kernel
theorem bf107_3 : am_fetch (am_mth 107) 3 = some (.invokestatic 105, 3, [0, 58, 3, 1398, 957, 71], [0, 1]) := by decide +kernel
theorem bf107_6 : am_fetch (am_mth 107) 6 = some (.ireturn, 1, [0], [0, 1]) := by decide +kernel
theorem bk107_0 {w : am_Wd} {l0 : Int32} {l1 : Int32} : am_run 107 0 [some (.int l0), some (.int l1)] [] w = (am_x 58 [.int l0, .int l1, .null] w).bind fun r => bct r fun v w' => am_run 107 6 [none, none] (v.toList ++ []) w' := by
  refine (bu (ls'' := [none, some (.int l1)]) (st' := [.int l0]) bf107_0 bf107_1 rfl rfl).trans ?_
  refine (bu (ls'' := [none, none]) (st' := [.int l1, .int l0]) bf107_1 bf107_2 rfl rfl).trans ?_
  refine (bu (ls'' := [none, none]) (st' := [.null, .int l1, .int l0]) bf107_2 bf107_3 rfl rfl).trans ?_
  exact bkS bf107_3 bf107_6 rfl (by decide +kernel) (Nat.le_of_ble_eq_true rfl) rfl (bhd rfl)
theorem bk107_6 {w : am_Wd} {s0 : Int32} : am_run 107 6 [none, none] [.int s0] w = some (.inl (some (.int s0)), w) := by
  exact am_e2 bf107_6 rfl (am_ge_rf w)
theorem bf118_0 : am_fetch (am_mth 118) 0 = some (.aload_n 0, 1, [], [1]) := by decide +kernel
theorem bf118_1 : am_fetch (am_mth 118) 1 = some (.invokevirtual 29, 3, [0, 72, 0, 4, 384, 152, 153, 65], [1]) := by decide +kernel
theorem bf118_4 : am_fetch (am_mth 118) 4 = some (.iconst 1, 1, [], [1]) := by decide +kernel
theorem bf118_5 : am_fetch (am_mth 118) 5 = some (.if_icmp .eq 5, 3, [], [1]) := by decide +kernel
theorem bf118_8 : am_fetch (am_mth 118) 8 = some (.iconst (-1), 1, [], [0, 1]) := by decide +kernel
theorem bf118_9 : am_fetch (am_mth 118) 9 = some (.ireturn, 1, [0], [0, 1]) := by decide +kernel
theorem bf118_10 : am_fetch (am_mth 118) 10 = some (.iconst 0, 1, [], [1]) := by decide +kernel
theorem bf118_11 : am_fetch (am_mth 118) 11 = some (.istore_n 1, 1, [], [1]) := by decide +kernel
theorem bf118_12 : am_fetch (am_mth 118) 12 = some (.iload_n 1, 1, [], []) := by decide +kernel
theorem bf118_13 : am_fetch (am_mth 118) 13 = some (.sipush 144, 3, [], []) := by decide +kernel
theorem bf118_16 : am_fetch (am_mth 118) 16 = some (.if_icmp .ge 28, 3, [], []) := by decide +kernel
theorem bf118_19 : am_fetch (am_mth 118) 19 = some (.aload_n 0, 1, [], []) := by decide +kernel
theorem bf118_20 : am_fetch (am_mth 118) 20 = some (.getfield 9, 3, [0, 4, 0, 596], []) := by decide +kernel
theorem bf118_23 : am_fetch (am_mth 118) 23 = some (.iload_n 1, 1, [], []) := by decide +kernel
theorem bf118_24 : am_fetch (am_mth 118) 24 = some (.iconst 4, 1, [], []) := by decide +kernel
theorem bf118_25 : am_fetch (am_mth 118) 25 = some (.irem, 1, [], []) := by decide +kernel
theorem bf118_26 : am_fetch (am_mth 118) 26 = some (.laload, 1, [], []) := by decide +kernel
theorem bf118_27 : am_fetch (am_mth 118) 27 = some (.iload_n 1, 1, [], []) := by decide +kernel
theorem bf118_28 : am_fetch (am_mth 118) 28 = some (.iconst 4, 1, [], []) := by decide +kernel
theorem bf118_29 : am_fetch (am_mth 118) 29 = some (.idiv, 1, [], []) := by decide +kernel
theorem bf118_30 : am_fetch (am_mth 118) 30 = some (.invokestatic 25, 3, [0, 11, 2, 385, 178, 57], []) := by decide +kernel
theorem bf118_33 : am_fetch (am_mth 118) 33 = some (.ifCond .eq 5, 3, [], []) := by decide +kernel
theorem bf118_36 : am_fetch (am_mth 118) 36 = some (.iload_n 1, 1, [], [0]) := by decide +kernel
theorem bf118_37 : am_fetch (am_mth 118) 37 = some (.ireturn, 1, [0], [0, 1]) := by decide +kernel
theorem bf118_38 : am_fetch (am_mth 118) 38 = some (.iinc 1 1, 3, [], []) := by decide +kernel
theorem bf118_41 : am_fetch (am_mth 118) 41 = some (.goto (-29), 3, [], []) := by decide +kernel
theorem bf118_44 : am_fetch (am_mth 118) 44 = some (.iconst (-1), 1, [], [0, 1]) := by decide +kernel
theorem bf118_45 : am_fetch (am_mth 118) 45 = some (.ireturn, 1, [0], [0, 1]) := by decide +kernel
theorem bk118_0 {w : am_Wd} {l0 : Nat} : am_run 118 0 [some (.ref l0), none] [] w = (am_kf w l0 4).bind fun _ => (am_x 72 [.ref l0] w).bind fun r => bct r fun v w' => am_run 118 4 [some (.ref l0), none] (v.toList ++ []) w' := by
  refine (bu (ls'' := [some (.ref l0), none]) (st' := [.ref l0]) bf118_0 bf118_1 rfl rfl).trans ?_
  exact bkV bf118_1 bf118_4 rfl (by decide +kernel) (Nat.le_of_ble_eq_true rfl) rfl (bhd rfl)
theorem bk118_4 {w : am_Wd} {l0 : Nat} {s0 : Int32} : am_run 118 4 [some (.ref l0), none] [.int s0] w = if s0 = (nI 1) then am_run 118 10 [some (.ref l0), none] [] w else am_run 118 8 [none, none] [] w := by
  refine (bu (ls'' := [some (.ref l0), none]) (st' := [.int (nI 1), .int s0]) bf118_4 bf118_5 rfl rfl).trans ?_
  exact bic bf118_5 rfl bf118_10 bf118_8 rfl rfl rfl
theorem bk118_10 {w : am_Wd} {l0 : Nat} : am_run 118 10 [some (.ref l0), none] [] w = am_run 118 12 [some (.ref l0), some (.int (nI 0))] [] w := by
  refine (bu (ls'' := [some (.ref l0), none]) (st' := [.int (nI 0)]) bf118_10 bf118_11 rfl rfl).trans ?_
  refine (bu (ls'' := [some (.ref l0), some (.int (nI 0))]) (st' := []) bf118_11 bf118_12 rfl rfl).trans ?_
  rfl
theorem bk118_8 {w : am_Wd}  : am_run 118 8 [none, none] [] w = some (.inl (some (.int (-1 : Int32))), w) := by
  refine (bu (ls'' := [none, none]) (st' := [.int (-1 : Int32)]) bf118_8 bf118_9 rfl rfl).trans ?_
  exact am_e2 bf118_9 rfl (am_ge_rf w)
theorem bk118_12 {w : am_Wd} {l0 : Nat} {l1 : Int32} : am_run 118 12 [some (.ref l0), some (.int l1)] [] w = if (nI 144) ≤ l1 then am_run 118 44 [none, none] [] w else am_run 118 19 [some (.ref l0), some (.int l1)] [] w := by
  refine (bu (ls'' := [some (.ref l0), some (.int l1)]) (st' := [.int l1]) bf118_12 bf118_13 rfl rfl).trans ?_
  refine (bu (ls'' := [some (.ref l0), some (.int l1)]) (st' := [.int (nI 144), .int l1]) bf118_13 bf118_16 rfl rfl).trans ?_
  exact bic bf118_16 rfl bf118_44 bf118_19 rfl rfl rfl
theorem bk118_44 {w : am_Wd}  : am_run 118 44 [none, none] [] w = some (.inl (some (.int (-1 : Int32))), w) := by
  refine (bu (ls'' := [none, none]) (st' := [.int (-1 : Int32)]) bf118_44 bf118_45 rfl rfl).trans ?_
  exact am_e2 bf118_45 rfl (am_ge_rf w)
theorem bk118_19 {w : am_Wd} {l0 : Nat} {l1 : Int32} : am_run 118 19 [some (.ref l0), some (.int l1)] [] w = (am_gf w l0 4 0).bind fun v => am_run 118 23 [some (.ref l0), some (.int l1)] (v :: []) w := by
  refine (bu (ls'' := [some (.ref l0), some (.int l1)]) (st' := [.ref l0]) bf118_19 bf118_20 rfl rfl).trans ?_
  exact bh bf118_20 bf118_23 rfl (fun _ _ => am_ge_rf w) rfl
theorem bk118_23 {w : am_Wd} {l0 : Nat} {l1 : Int32} {s0 : Nat} : am_run 118 23 [some (.ref l0), some (.int l1)] [.ref s0] w = (am_rl w s0 (bj_irem l1 (nI 4))).bind fun v => am_run 118 27 [some (.ref l0), some (.int l1)] (.long v :: []) w := by
  refine (bu (ls'' := [some (.ref l0), some (.int l1)]) (st' := [.int l1, .ref s0]) bf118_23 bf118_24 rfl rfl).trans ?_
  refine (bu (ls'' := [some (.ref l0), some (.int l1)]) (st' := [.int (nI 4), .int l1, .ref s0]) bf118_24 bf118_25 rfl rfl).trans ?_
  refine (bu (ls'' := [some (.ref l0), some (.int l1)]) (st' := [.int (bj_irem l1 (nI 4)), .ref s0]) bf118_25 bf118_26 rfl rfl).trans ?_
  exact bh bf118_26 bf118_27 rfl (fun _ _ => am_ge_rf w) rfl
theorem bk118_27 {w : am_Wd} {l0 : Nat} {l1 : Int32} {s0 : Int64} : am_run 118 27 [some (.ref l0), some (.int l1)] [.long s0] w = (am_x 11 [.long s0, .int (l1 / (nI 4))] w).bind fun r => bct r fun v w' => am_run 118 33 [some (.ref l0), some (.int l1)] (v.toList ++ []) w' := by
  refine (bu (ls'' := [some (.ref l0), some (.int l1)]) (st' := [.int l1, .long s0]) bf118_27 bf118_28 rfl rfl).trans ?_
  refine (bu (ls'' := [some (.ref l0), some (.int l1)]) (st' := [.int (nI 4), .int l1, .long s0]) bf118_28 bf118_29 rfl rfl).trans ?_
  refine (bu (ls'' := [some (.ref l0), some (.int l1)]) (st' := [.int (l1 / (nI 4)), .long s0]) bf118_29 bf118_30 rfl rfl).trans ?_
  exact bkS bf118_30 bf118_33 rfl (by decide +kernel) (Nat.le_of_ble_eq_true rfl) rfl (bhd rfl)
theorem bk118_33 {w : am_Wd} {l0 : Nat} {l1 : Int32} {s0 : Int32} : am_run 118 33 [some (.ref l0), some (.int l1)] [.int s0] w = if s0 = nI 0 then am_run 118 38 [some (.ref l0), some (.int l1)] [] w else am_run 118 36 [none, some (.int l1)] [] w := by
  exact bifc bf118_33 rfl bf118_38 bf118_36 rfl rfl rfl
theorem bk118_38 {w : am_Wd} {l0 : Nat} {l1 : Int32} : am_run 118 38 [some (.ref l0), some (.int l1)] [] w = am_run 118 12 [some (.ref l0), some (.int (l1 + (nI 1)))] [] w := by
  refine (bu (ls'' := [some (.ref l0), some (.int (l1 + (nI 1)))]) (st' := []) bf118_38 bf118_41 rfl rfl).trans ?_
  refine (bu (ls'' := [some (.ref l0), some (.int (l1 + (nI 1)))]) (st' := []) bf118_41 bf118_12 rfl rfl).trans ?_
  rfl
theorem bk118_36 {w : am_Wd} {l1 : Int32} : am_run 118 36 [none, some (.int l1)] [] w = some (.inl (some (.int l1)), w) := by
  refine (bu (ls'' := [none, none]) (st' := [.int l1]) bf118_36 bf118_37 rfl rfl).trans ?_
  exact am_e2 bf118_37 rfl (am_ge_rf w)
theorem bf119_0 : am_fetch (am_mth 119) 0 = some (.iconst 0, 1, [], [3]) := by decide +kernel
theorem bf119_1 : am_fetch (am_mth 119) 1 = some (.istore_n 3, 1, [], [3]) := by decide +kernel
theorem bf119_2 : am_fetch (am_mth 119) 2 = some (.iload_n 3, 1, [], []) := by decide +kernel
theorem bf119_3 : am_fetch (am_mth 119) 3 = some (.iconst 4, 1, [], []) := by decide +kernel
theorem bf119_4 : am_fetch (am_mth 119) 4 = some (.if_icmp .ge 22, 3, [], []) := by decide +kernel
theorem bf119_7 : am_fetch (am_mth 119) 7 = some (.aload_n 0, 1, [], []) := by decide +kernel
theorem bf119_8 : am_fetch (am_mth 119) 8 = some (.getfield 9, 3, [0, 4, 0, 596], []) := by decide +kernel
theorem bf119_11 : am_fetch (am_mth 119) 11 = some (.iload_n 3, 1, [], []) := by decide +kernel
theorem bf119_12 : am_fetch (am_mth 119) 12 = some (.aload_n 0, 1, [], []) := by decide +kernel
theorem bf119_13 : am_fetch (am_mth 119) 13 = some (.iload_n 3, 1, [], []) := by decide +kernel
theorem bf119_14 : am_fetch (am_mth 119) 14 = some (.iload_n 1, 1, [], []) := by decide +kernel
theorem bf119_15 : am_fetch (am_mth 119) 15 = some (.aload_n 2, 1, [], []) := by decide +kernel
theorem bf119_16 : am_fetch (am_mth 119) 16 = some (.invokevirtual 47, 3, [0, 74, 3, 4, 433, 435, 7, 65], []) := by decide +kernel
theorem bf119_19 : am_fetch (am_mth 119) 19 = some (.lastore, 1, [], []) := by decide +kernel
theorem bf119_20 : am_fetch (am_mth 119) 20 = some (.iinc 3 1, 3, [], []) := by decide +kernel
theorem bf119_23 : am_fetch (am_mth 119) 23 = some (.goto (-21), 3, [], []) := by decide +kernel
theorem bf119_26 : am_fetch (am_mth 119) 26 = some (.return_, 1, [], [0, 1, 2, 3]) := by decide +kernel
theorem bk119_0 {w : am_Wd} {l0 : Nat} {l1 : Int32} {l2 : Nat} : am_run 119 0 [some (.ref l0), some (.int l1), some (.ref l2), none] [] w = am_run 119 2 [some (.ref l0), some (.int l1), some (.ref l2), some (.int (nI 0))] [] w := by
  refine (bu (ls'' := [some (.ref l0), some (.int l1), some (.ref l2), none]) (st' := [.int (nI 0)]) bf119_0 bf119_1 rfl rfl).trans ?_
  refine (bu (ls'' := [some (.ref l0), some (.int l1), some (.ref l2), some (.int (nI 0))]) (st' := []) bf119_1 bf119_2 rfl rfl).trans ?_
  rfl
theorem bk119_2 {w : am_Wd} {l0 : Nat} {l1 : Int32} {l2 : Nat} {l3 : Int32} : am_run 119 2 [some (.ref l0), some (.int l1), some (.ref l2), some (.int l3)] [] w = if (nI 4) ≤ l3 then am_run 119 26 [none, none, none, none] [] w else am_run 119 7 [some (.ref l0), some (.int l1), some (.ref l2), some (.int l3)] [] w := by
  refine (bu (ls'' := [some (.ref l0), some (.int l1), some (.ref l2), some (.int l3)]) (st' := [.int l3]) bf119_2 bf119_3 rfl rfl).trans ?_
  refine (bu (ls'' := [some (.ref l0), some (.int l1), some (.ref l2), some (.int l3)]) (st' := [.int (nI 4), .int l3]) bf119_3 bf119_4 rfl rfl).trans ?_
  exact bic bf119_4 rfl bf119_26 bf119_7 rfl rfl rfl
theorem bk119_26 {w : am_Wd}  : am_run 119 26 [none, none, none, none] [] w = some (.inl none, w) := by
  exact am_e2 bf119_26 rfl (am_ge_rf w)
theorem bk119_7 {w : am_Wd} {l0 : Nat} {l1 : Int32} {l2 : Nat} {l3 : Int32} : am_run 119 7 [some (.ref l0), some (.int l1), some (.ref l2), some (.int l3)] [] w = (am_gf w l0 4 0).bind fun v => am_run 119 11 [some (.ref l0), some (.int l1), some (.ref l2), some (.int l3)] (v :: []) w := by
  refine (bu (ls'' := [some (.ref l0), some (.int l1), some (.ref l2), some (.int l3)]) (st' := [.ref l0]) bf119_7 bf119_8 rfl rfl).trans ?_
  exact bh bf119_8 bf119_11 rfl (fun _ _ => am_ge_rf w) rfl
theorem bk119_11 {w : am_Wd} {l0 : Nat} {l1 : Int32} {l2 : Nat} {l3 : Int32} {s0 : Nat} : am_run 119 11 [some (.ref l0), some (.int l1), some (.ref l2), some (.int l3)] [.ref s0] w = (am_kf w l0 4).bind fun _ => (am_x 74 [.ref l0, .int l3, .int l1, .ref l2] w).bind fun r => bct r fun v w' => am_run 119 19 [some (.ref l0), some (.int l1), some (.ref l2), some (.int l3)] (v.toList ++ [.int l3, .ref s0]) w' := by
  refine (bu (ls'' := [some (.ref l0), some (.int l1), some (.ref l2), some (.int l3)]) (st' := [.int l3, .ref s0]) bf119_11 bf119_12 rfl rfl).trans ?_
  refine (bu (ls'' := [some (.ref l0), some (.int l1), some (.ref l2), some (.int l3)]) (st' := [.ref l0, .int l3, .ref s0]) bf119_12 bf119_13 rfl rfl).trans ?_
  refine (bu (ls'' := [some (.ref l0), some (.int l1), some (.ref l2), some (.int l3)]) (st' := [.int l3, .ref l0, .int l3, .ref s0]) bf119_13 bf119_14 rfl rfl).trans ?_
  refine (bu (ls'' := [some (.ref l0), some (.int l1), some (.ref l2), some (.int l3)]) (st' := [.int l1, .int l3, .ref l0, .int l3, .ref s0]) bf119_14 bf119_15 rfl rfl).trans ?_
  refine (bu (ls'' := [some (.ref l0), some (.int l1), some (.ref l2), some (.int l3)]) (st' := [.ref l2, .int l1, .int l3, .ref l0, .int l3, .ref s0]) bf119_15 bf119_16 rfl rfl).trans ?_
  exact bkV bf119_16 bf119_19 rfl (by decide +kernel) (Nat.le_of_ble_eq_true rfl) rfl (bhd rfl)
theorem bk119_19 {w : am_Wd} {l0 : Nat} {l1 : Int32} {l2 : Nat} {l3 : Int32} {s0 : Int64} {s1 : Int32} {s2 : Nat} : am_run 119 19 [some (.ref l0), some (.int l1), some (.ref l2), some (.int l3)] [.long s0, .int s1, .ref s2] w = (am_wl w s2 s1 s0).bind fun w' => am_run 119 20 [some (.ref l0), some (.int l1), some (.ref l2), some (.int l3)] [] w' := by
  exact bh bf119_19 bf119_20 rfl (bge_wl) rfl
theorem bk119_20 {w : am_Wd} {l0 : Nat} {l1 : Int32} {l2 : Nat} {l3 : Int32} : am_run 119 20 [some (.ref l0), some (.int l1), some (.ref l2), some (.int l3)] [] w = am_run 119 2 [some (.ref l0), some (.int l1), some (.ref l2), some (.int (l3 + (nI 1)))] [] w := by
  refine (bu (ls'' := [some (.ref l0), some (.int l1), some (.ref l2), some (.int (l3 + (nI 1)))]) (st' := []) bf119_20 bf119_23 rfl rfl).trans ?_
  refine (bu (ls'' := [some (.ref l0), some (.int l1), some (.ref l2), some (.int (l3 + (nI 1)))]) (st' := []) bf119_23 bf119_2 rfl rfl).trans ?_
  rfl
theorem bf120_0 : am_fetch (am_mth 120) 0 = some (.iconst 0, 1, [], [3]) := by decide +kernel
theorem bf120_1 : am_fetch (am_mth 120) 1 = some (.istore_n 3, 1, [], [3]) := by decide +kernel
theorem bf120_2 : am_fetch (am_mth 120) 2 = some (.iload_n 3, 1, [], []) := by decide +kernel
theorem bf120_3 : am_fetch (am_mth 120) 3 = some (.iconst 4, 1, [], []) := by decide +kernel
theorem bf120_4 : am_fetch (am_mth 120) 4 = some (.if_icmp .ge 22, 3, [], []) := by decide +kernel
theorem bf120_7 : am_fetch (am_mth 120) 7 = some (.aload_n 0, 1, [], []) := by decide +kernel
theorem bf120_8 : am_fetch (am_mth 120) 8 = some (.getfield 9, 3, [0, 4, 0, 596], []) := by decide +kernel
theorem bf120_11 : am_fetch (am_mth 120) 11 = some (.iload_n 3, 1, [], []) := by decide +kernel
theorem bf120_12 : am_fetch (am_mth 120) 12 = some (.aload_n 0, 1, [], []) := by decide +kernel
theorem bf120_13 : am_fetch (am_mth 120) 13 = some (.iload_n 3, 1, [], []) := by decide +kernel
theorem bf120_14 : am_fetch (am_mth 120) 14 = some (.iload_n 1, 1, [], []) := by decide +kernel
theorem bf120_15 : am_fetch (am_mth 120) 15 = some (.aload_n 2, 1, [], []) := by decide +kernel
theorem bf120_16 : am_fetch (am_mth 120) 16 = some (.invokevirtual 51, 3, [0, 75, 3, 4, 452, 454, 8, 65], []) := by decide +kernel
theorem bf120_19 : am_fetch (am_mth 120) 19 = some (.lastore, 1, [], []) := by decide +kernel
theorem bf120_20 : am_fetch (am_mth 120) 20 = some (.iinc 3 1, 3, [], []) := by decide +kernel
theorem bf120_23 : am_fetch (am_mth 120) 23 = some (.goto (-21), 3, [], []) := by decide +kernel
theorem bf120_26 : am_fetch (am_mth 120) 26 = some (.return_, 1, [], [0, 1, 2, 3]) := by decide +kernel
theorem bk120_0 {w : am_Wd} {l0 : Nat} {l1 : Int32} {l2 : Nat} : am_run 120 0 [some (.ref l0), some (.int l1), some (.ref l2), none] [] w = am_run 120 2 [some (.ref l0), some (.int l1), some (.ref l2), some (.int (nI 0))] [] w := by
  refine (bu (ls'' := [some (.ref l0), some (.int l1), some (.ref l2), none]) (st' := [.int (nI 0)]) bf120_0 bf120_1 rfl rfl).trans ?_
  refine (bu (ls'' := [some (.ref l0), some (.int l1), some (.ref l2), some (.int (nI 0))]) (st' := []) bf120_1 bf120_2 rfl rfl).trans ?_
  rfl
theorem bk120_2 {w : am_Wd} {l0 : Nat} {l1 : Int32} {l2 : Nat} {l3 : Int32} : am_run 120 2 [some (.ref l0), some (.int l1), some (.ref l2), some (.int l3)] [] w = if (nI 4) ≤ l3 then am_run 120 26 [none, none, none, none] [] w else am_run 120 7 [some (.ref l0), some (.int l1), some (.ref l2), some (.int l3)] [] w := by
  refine (bu (ls'' := [some (.ref l0), some (.int l1), some (.ref l2), some (.int l3)]) (st' := [.int l3]) bf120_2 bf120_3 rfl rfl).trans ?_
  refine (bu (ls'' := [some (.ref l0), some (.int l1), some (.ref l2), some (.int l3)]) (st' := [.int (nI 4), .int l3]) bf120_3 bf120_4 rfl rfl).trans ?_
  exact bic bf120_4 rfl bf120_26 bf120_7 rfl rfl rfl
theorem bk120_26 {w : am_Wd}  : am_run 120 26 [none, none, none, none] [] w = some (.inl none, w) := by
  exact am_e2 bf120_26 rfl (am_ge_rf w)
theorem bk120_7 {w : am_Wd} {l0 : Nat} {l1 : Int32} {l2 : Nat} {l3 : Int32} : am_run 120 7 [some (.ref l0), some (.int l1), some (.ref l2), some (.int l3)] [] w = (am_gf w l0 4 0).bind fun v => am_run 120 11 [some (.ref l0), some (.int l1), some (.ref l2), some (.int l3)] (v :: []) w := by
  refine (bu (ls'' := [some (.ref l0), some (.int l1), some (.ref l2), some (.int l3)]) (st' := [.ref l0]) bf120_7 bf120_8 rfl rfl).trans ?_
  exact bh bf120_8 bf120_11 rfl (fun _ _ => am_ge_rf w) rfl
theorem bk120_11 {w : am_Wd} {l0 : Nat} {l1 : Int32} {l2 : Nat} {l3 : Int32} {s0 : Nat} : am_run 120 11 [some (.ref l0), some (.int l1), some (.ref l2), some (.int l3)] [.ref s0] w = (am_kf w l0 4).bind fun _ => (am_x 75 [.ref l0, .int l3, .int l1, .ref l2] w).bind fun r => bct r fun v w' => am_run 120 19 [some (.ref l0), some (.int l1), some (.ref l2), some (.int l3)] (v.toList ++ [.int l3, .ref s0]) w' := by
  refine (bu (ls'' := [some (.ref l0), some (.int l1), some (.ref l2), some (.int l3)]) (st' := [.int l3, .ref s0]) bf120_11 bf120_12 rfl rfl).trans ?_
  refine (bu (ls'' := [some (.ref l0), some (.int l1), some (.ref l2), some (.int l3)]) (st' := [.ref l0, .int l3, .ref s0]) bf120_12 bf120_13 rfl rfl).trans ?_
  refine (bu (ls'' := [some (.ref l0), some (.int l1), some (.ref l2), some (.int l3)]) (st' := [.int l3, .ref l0, .int l3, .ref s0]) bf120_13 bf120_14 rfl rfl).trans ?_
  refine (bu (ls'' := [some (.ref l0), some (.int l1), some (.ref l2), some (.int l3)]) (st' := [.int l1, .int l3, .ref l0, .int l3, .ref s0]) bf120_14 bf120_15 rfl rfl).trans ?_
  refine (bu (ls'' := [some (.ref l0), some (.int l1), some (.ref l2), some (.int l3)]) (st' := [.ref l2, .int l1, .int l3, .ref l0, .int l3, .ref s0]) bf120_15 bf120_16 rfl rfl).trans ?_
  exact bkV bf120_16 bf120_19 rfl (by decide +kernel) (Nat.le_of_ble_eq_true rfl) rfl (bhd rfl)
theorem bk120_19 {w : am_Wd} {l0 : Nat} {l1 : Int32} {l2 : Nat} {l3 : Int32} {s0 : Int64} {s1 : Int32} {s2 : Nat} : am_run 120 19 [some (.ref l0), some (.int l1), some (.ref l2), some (.int l3)] [.long s0, .int s1, .ref s2] w = (am_wl w s2 s1 s0).bind fun w' => am_run 120 20 [some (.ref l0), some (.int l1), some (.ref l2), some (.int l3)] [] w' := by
  exact bh bf120_19 bf120_20 rfl (bge_wl) rfl
theorem bk120_20 {w : am_Wd} {l0 : Nat} {l1 : Int32} {l2 : Nat} {l3 : Int32} : am_run 120 20 [some (.ref l0), some (.int l1), some (.ref l2), some (.int l3)] [] w = am_run 120 2 [some (.ref l0), some (.int l1), some (.ref l2), some (.int (l3 + (nI 1)))] [] w := by
  refine (bu (ls'' := [some (.ref l0), some (.int l1), some (.ref l2), some (.int (l3 + (nI 1)))]) (st' := []) bf120_20 bf120_23 rfl rfl).trans ?_
  refine (bu (ls'' := [some (.ref l0), some (.int l1), some (.ref l2), some (.int (l3 + (nI 1)))]) (st' := []) bf120_23 bf120_2 rfl rfl).trans ?_
  rfl
theorem bf121_0 : am_fetch (am_mth 121) 0 = some (.iconst 0, 1, [], [3, 4]) := by decide +kernel
theorem bf121_1 : am_fetch (am_mth 121) 1 = some (.istore_n 3, 1, [], [3, 4]) := by decide +kernel
theorem bf121_2 : am_fetch (am_mth 121) 2 = some (.iconst 0, 1, [], [4]) := by decide +kernel
theorem bf121_3 : am_fetch (am_mth 121) 3 = some (.istore 4, 2, [], [4]) := by decide +kernel
theorem bf121_5 : am_fetch (am_mth 121) 5 = some (.iload 4, 2, [], []) := by decide +kernel
theorem bf121_7 : am_fetch (am_mth 121) 7 = some (.iconst 4, 1, [], []) := by decide +kernel
theorem bf121_8 : am_fetch (am_mth 121) 8 = some (.if_icmp .ge 23, 3, [], []) := by decide +kernel
theorem bf121_11 : am_fetch (am_mth 121) 11 = some (.iload_n 3, 1, [], []) := by decide +kernel
theorem bf121_12 : am_fetch (am_mth 121) 12 = some (.aload_n 0, 1, [], [3]) := by decide +kernel
theorem bf121_13 : am_fetch (am_mth 121) 13 = some (.iload 4, 2, [], [3]) := by decide +kernel
theorem bf121_15 : am_fetch (am_mth 121) 15 = some (.iload_n 1, 1, [], [3]) := by decide +kernel
theorem bf121_16 : am_fetch (am_mth 121) 16 = some (.aload_n 2, 1, [], [3]) := by decide +kernel
theorem bf121_17 : am_fetch (am_mth 121) 17 = some (.invokevirtual 47, 3, [0, 74, 3, 4, 433, 435, 7, 65], [3]) := by decide +kernel
theorem bf121_20 : am_fetch (am_mth 121) 20 = some (.invokestatic 19, 3, [0, 50, 1, 155, 156, 61], [3]) := by decide +kernel
theorem bf121_23 : am_fetch (am_mth 121) 23 = some (.iadd, 1, [], [3]) := by decide +kernel
theorem bf121_24 : am_fetch (am_mth 121) 24 = some (.istore_n 3, 1, [], [3]) := by decide +kernel
theorem bf121_25 : am_fetch (am_mth 121) 25 = some (.iinc 4 1, 3, [], []) := by decide +kernel
theorem bf121_28 : am_fetch (am_mth 121) 28 = some (.goto (-23), 3, [], []) := by decide +kernel
theorem bf121_31 : am_fetch (am_mth 121) 31 = some (.iload_n 3, 1, [], [0, 1, 2, 4]) := by decide +kernel
theorem bf121_32 : am_fetch (am_mth 121) 32 = some (.ireturn, 1, [0], [0, 1, 2, 3, 4]) := by decide +kernel
theorem bk121_0 {w : am_Wd} {l0 : Nat} {l1 : Int32} {l2 : Nat} : am_run 121 0 [some (.ref l0), some (.int l1), some (.ref l2), none, none] [] w = am_run 121 5 [some (.ref l0), some (.int l1), some (.ref l2), some (.int (nI 0)), some (.int (nI 0))] [] w := by
  refine (bu (ls'' := [some (.ref l0), some (.int l1), some (.ref l2), none, none]) (st' := [.int (nI 0)]) bf121_0 bf121_1 rfl rfl).trans ?_
  refine (bu (ls'' := [some (.ref l0), some (.int l1), some (.ref l2), some (.int (nI 0)), none]) (st' := []) bf121_1 bf121_2 rfl rfl).trans ?_
  refine (bu (ls'' := [some (.ref l0), some (.int l1), some (.ref l2), some (.int (nI 0)), none]) (st' := [.int (nI 0)]) bf121_2 bf121_3 rfl rfl).trans ?_
  refine (bu (ls'' := [some (.ref l0), some (.int l1), some (.ref l2), some (.int (nI 0)), some (.int (nI 0))]) (st' := []) bf121_3 bf121_5 rfl rfl).trans ?_
  rfl
theorem bk121_5 {w : am_Wd} {l0 : Nat} {l1 : Int32} {l2 : Nat} {l3 : Int32} {l4 : Int32} : am_run 121 5 [some (.ref l0), some (.int l1), some (.ref l2), some (.int l3), some (.int l4)] [] w = if (nI 4) ≤ l4 then am_run 121 31 [none, none, none, some (.int l3), none] [] w else am_run 121 11 [some (.ref l0), some (.int l1), some (.ref l2), some (.int l3), some (.int l4)] [] w := by
  refine (bu (ls'' := [some (.ref l0), some (.int l1), some (.ref l2), some (.int l3), some (.int l4)]) (st' := [.int l4]) bf121_5 bf121_7 rfl rfl).trans ?_
  refine (bu (ls'' := [some (.ref l0), some (.int l1), some (.ref l2), some (.int l3), some (.int l4)]) (st' := [.int (nI 4), .int l4]) bf121_7 bf121_8 rfl rfl).trans ?_
  exact bic bf121_8 rfl bf121_31 bf121_11 rfl rfl rfl
theorem bk121_31 {w : am_Wd} {l3 : Int32} : am_run 121 31 [none, none, none, some (.int l3), none] [] w = some (.inl (some (.int l3)), w) := by
  refine (bu (ls'' := [none, none, none, none, none]) (st' := [.int l3]) bf121_31 bf121_32 rfl rfl).trans ?_
  exact am_e2 bf121_32 rfl (am_ge_rf w)
theorem bk121_11 {w : am_Wd} {l0 : Nat} {l1 : Int32} {l2 : Nat} {l3 : Int32} {l4 : Int32} : am_run 121 11 [some (.ref l0), some (.int l1), some (.ref l2), some (.int l3), some (.int l4)] [] w = (am_kf w l0 4).bind fun _ => (am_x 74 [.ref l0, .int l4, .int l1, .ref l2] w).bind fun r => bct r fun v w' => am_run 121 20 [some (.ref l0), some (.int l1), some (.ref l2), none, some (.int l4)] (v.toList ++ [.int l3]) w' := by
  refine (bu (ls'' := [some (.ref l0), some (.int l1), some (.ref l2), none, some (.int l4)]) (st' := [.int l3]) bf121_11 bf121_12 rfl rfl).trans ?_
  refine (bu (ls'' := [some (.ref l0), some (.int l1), some (.ref l2), none, some (.int l4)]) (st' := [.ref l0, .int l3]) bf121_12 bf121_13 rfl rfl).trans ?_
  refine (bu (ls'' := [some (.ref l0), some (.int l1), some (.ref l2), none, some (.int l4)]) (st' := [.int l4, .ref l0, .int l3]) bf121_13 bf121_15 rfl rfl).trans ?_
  refine (bu (ls'' := [some (.ref l0), some (.int l1), some (.ref l2), none, some (.int l4)]) (st' := [.int l1, .int l4, .ref l0, .int l3]) bf121_15 bf121_16 rfl rfl).trans ?_
  refine (bu (ls'' := [some (.ref l0), some (.int l1), some (.ref l2), none, some (.int l4)]) (st' := [.ref l2, .int l1, .int l4, .ref l0, .int l3]) bf121_16 bf121_17 rfl rfl).trans ?_
  exact bkV bf121_17 bf121_20 rfl (by decide +kernel) (Nat.le_of_ble_eq_true rfl) rfl (bhd rfl)
theorem bk121_20 {w : am_Wd} {l0 : Nat} {l1 : Int32} {l2 : Nat} {l4 : Int32} {s0 : Int64} {s1 : Int32} : am_run 121 20 [some (.ref l0), some (.int l1), some (.ref l2), none, some (.int l4)] [.long s0, .int s1] w = (am_x 50 [.long s0] w).bind fun r => bct r fun v w' => am_run 121 23 [some (.ref l0), some (.int l1), some (.ref l2), none, some (.int l4)] (v.toList ++ [.int s1]) w' := by
  exact bkS bf121_20 bf121_23 rfl (by decide +kernel) (Nat.le_of_ble_eq_true rfl) rfl (bhd rfl)
theorem bk121_23 {w : am_Wd} {l0 : Nat} {l1 : Int32} {l2 : Nat} {l4 : Int32} {s0 : Int32} {s1 : Int32} : am_run 121 23 [some (.ref l0), some (.int l1), some (.ref l2), none, some (.int l4)] [.int s0, .int s1] w = am_run 121 5 [some (.ref l0), some (.int l1), some (.ref l2), some (.int (s1 + s0)), some (.int (l4 + (nI 1)))] [] w := by
  refine (bu (ls'' := [some (.ref l0), some (.int l1), some (.ref l2), none, some (.int l4)]) (st' := [.int (s1 + s0)]) bf121_23 bf121_24 rfl rfl).trans ?_
  refine (bu (ls'' := [some (.ref l0), some (.int l1), some (.ref l2), some (.int (s1 + s0)), some (.int l4)]) (st' := []) bf121_24 bf121_25 rfl rfl).trans ?_
  refine (bu (ls'' := [some (.ref l0), some (.int l1), some (.ref l2), some (.int (s1 + s0)), some (.int (l4 + (nI 1)))]) (st' := []) bf121_25 bf121_28 rfl rfl).trans ?_
  refine (bu (ls'' := [some (.ref l0), some (.int l1), some (.ref l2), some (.int (s1 + s0)), some (.int (l4 + (nI 1)))]) (st' := []) bf121_28 bf121_5 rfl rfl).trans ?_
  rfl
theorem bf122_0 : am_fetch (am_mth 122) 0 = some (.iconst 0, 1, [], [3, 4]) := by decide +kernel
theorem bf122_1 : am_fetch (am_mth 122) 1 = some (.istore_n 3, 1, [], [3, 4]) := by decide +kernel
theorem bf122_2 : am_fetch (am_mth 122) 2 = some (.iconst 0, 1, [], [4]) := by decide +kernel
theorem bf122_3 : am_fetch (am_mth 122) 3 = some (.istore 4, 2, [], [4]) := by decide +kernel
theorem bf122_5 : am_fetch (am_mth 122) 5 = some (.iload 4, 2, [], []) := by decide +kernel
theorem bf122_7 : am_fetch (am_mth 122) 7 = some (.iconst 4, 1, [], []) := by decide +kernel
theorem bf122_8 : am_fetch (am_mth 122) 8 = some (.if_icmp .ge 23, 3, [], []) := by decide +kernel
theorem bf122_11 : am_fetch (am_mth 122) 11 = some (.iload_n 3, 1, [], []) := by decide +kernel
theorem bf122_12 : am_fetch (am_mth 122) 12 = some (.aload_n 0, 1, [], [3]) := by decide +kernel
theorem bf122_13 : am_fetch (am_mth 122) 13 = some (.iload 4, 2, [], [3]) := by decide +kernel
theorem bf122_15 : am_fetch (am_mth 122) 15 = some (.iload_n 1, 1, [], [3]) := by decide +kernel
theorem bf122_16 : am_fetch (am_mth 122) 16 = some (.aload_n 2, 1, [], [3]) := by decide +kernel
theorem bf122_17 : am_fetch (am_mth 122) 17 = some (.invokevirtual 51, 3, [0, 75, 3, 4, 452, 454, 8, 65], [3]) := by decide +kernel
theorem bf122_20 : am_fetch (am_mth 122) 20 = some (.invokestatic 19, 3, [0, 50, 1, 155, 156, 61], [3]) := by decide +kernel
theorem bf122_23 : am_fetch (am_mth 122) 23 = some (.iadd, 1, [], [3]) := by decide +kernel
theorem bf122_24 : am_fetch (am_mth 122) 24 = some (.istore_n 3, 1, [], [3]) := by decide +kernel
theorem bf122_25 : am_fetch (am_mth 122) 25 = some (.iinc 4 1, 3, [], []) := by decide +kernel
theorem bf122_28 : am_fetch (am_mth 122) 28 = some (.goto (-23), 3, [], []) := by decide +kernel
theorem bf122_31 : am_fetch (am_mth 122) 31 = some (.iload_n 3, 1, [], [0, 1, 2, 4]) := by decide +kernel
theorem bf122_32 : am_fetch (am_mth 122) 32 = some (.ireturn, 1, [0], [0, 1, 2, 3, 4]) := by decide +kernel
theorem bk122_0 {w : am_Wd} {l0 : Nat} {l1 : Int32} {l2 : Nat} : am_run 122 0 [some (.ref l0), some (.int l1), some (.ref l2), none, none] [] w = am_run 122 5 [some (.ref l0), some (.int l1), some (.ref l2), some (.int (nI 0)), some (.int (nI 0))] [] w := by
  refine (bu (ls'' := [some (.ref l0), some (.int l1), some (.ref l2), none, none]) (st' := [.int (nI 0)]) bf122_0 bf122_1 rfl rfl).trans ?_
  refine (bu (ls'' := [some (.ref l0), some (.int l1), some (.ref l2), some (.int (nI 0)), none]) (st' := []) bf122_1 bf122_2 rfl rfl).trans ?_
  refine (bu (ls'' := [some (.ref l0), some (.int l1), some (.ref l2), some (.int (nI 0)), none]) (st' := [.int (nI 0)]) bf122_2 bf122_3 rfl rfl).trans ?_
  refine (bu (ls'' := [some (.ref l0), some (.int l1), some (.ref l2), some (.int (nI 0)), some (.int (nI 0))]) (st' := []) bf122_3 bf122_5 rfl rfl).trans ?_
  rfl
theorem bk122_5 {w : am_Wd} {l0 : Nat} {l1 : Int32} {l2 : Nat} {l3 : Int32} {l4 : Int32} : am_run 122 5 [some (.ref l0), some (.int l1), some (.ref l2), some (.int l3), some (.int l4)] [] w = if (nI 4) ≤ l4 then am_run 122 31 [none, none, none, some (.int l3), none] [] w else am_run 122 11 [some (.ref l0), some (.int l1), some (.ref l2), some (.int l3), some (.int l4)] [] w := by
  refine (bu (ls'' := [some (.ref l0), some (.int l1), some (.ref l2), some (.int l3), some (.int l4)]) (st' := [.int l4]) bf122_5 bf122_7 rfl rfl).trans ?_
  refine (bu (ls'' := [some (.ref l0), some (.int l1), some (.ref l2), some (.int l3), some (.int l4)]) (st' := [.int (nI 4), .int l4]) bf122_7 bf122_8 rfl rfl).trans ?_
  exact bic bf122_8 rfl bf122_31 bf122_11 rfl rfl rfl
theorem bk122_31 {w : am_Wd} {l3 : Int32} : am_run 122 31 [none, none, none, some (.int l3), none] [] w = some (.inl (some (.int l3)), w) := by
  refine (bu (ls'' := [none, none, none, none, none]) (st' := [.int l3]) bf122_31 bf122_32 rfl rfl).trans ?_
  exact am_e2 bf122_32 rfl (am_ge_rf w)
theorem bk122_11 {w : am_Wd} {l0 : Nat} {l1 : Int32} {l2 : Nat} {l3 : Int32} {l4 : Int32} : am_run 122 11 [some (.ref l0), some (.int l1), some (.ref l2), some (.int l3), some (.int l4)] [] w = (am_kf w l0 4).bind fun _ => (am_x 75 [.ref l0, .int l4, .int l1, .ref l2] w).bind fun r => bct r fun v w' => am_run 122 20 [some (.ref l0), some (.int l1), some (.ref l2), none, some (.int l4)] (v.toList ++ [.int l3]) w' := by
  refine (bu (ls'' := [some (.ref l0), some (.int l1), some (.ref l2), none, some (.int l4)]) (st' := [.int l3]) bf122_11 bf122_12 rfl rfl).trans ?_
  refine (bu (ls'' := [some (.ref l0), some (.int l1), some (.ref l2), none, some (.int l4)]) (st' := [.ref l0, .int l3]) bf122_12 bf122_13 rfl rfl).trans ?_
  refine (bu (ls'' := [some (.ref l0), some (.int l1), some (.ref l2), none, some (.int l4)]) (st' := [.int l4, .ref l0, .int l3]) bf122_13 bf122_15 rfl rfl).trans ?_
  refine (bu (ls'' := [some (.ref l0), some (.int l1), some (.ref l2), none, some (.int l4)]) (st' := [.int l1, .int l4, .ref l0, .int l3]) bf122_15 bf122_16 rfl rfl).trans ?_
  refine (bu (ls'' := [some (.ref l0), some (.int l1), some (.ref l2), none, some (.int l4)]) (st' := [.ref l2, .int l1, .int l4, .ref l0, .int l3]) bf122_16 bf122_17 rfl rfl).trans ?_
  exact bkV bf122_17 bf122_20 rfl (by decide +kernel) (Nat.le_of_ble_eq_true rfl) rfl (bhd rfl)
theorem bk122_20 {w : am_Wd} {l0 : Nat} {l1 : Int32} {l2 : Nat} {l4 : Int32} {s0 : Int64} {s1 : Int32} : am_run 122 20 [some (.ref l0), some (.int l1), some (.ref l2), none, some (.int l4)] [.long s0, .int s1] w = (am_x 50 [.long s0] w).bind fun r => bct r fun v w' => am_run 122 23 [some (.ref l0), some (.int l1), some (.ref l2), none, some (.int l4)] (v.toList ++ [.int s1]) w' := by
  exact bkS bf122_20 bf122_23 rfl (by decide +kernel) (Nat.le_of_ble_eq_true rfl) rfl (bhd rfl)
theorem bk122_23 {w : am_Wd} {l0 : Nat} {l1 : Int32} {l2 : Nat} {l4 : Int32} {s0 : Int32} {s1 : Int32} : am_run 122 23 [some (.ref l0), some (.int l1), some (.ref l2), none, some (.int l4)] [.int s0, .int s1] w = am_run 122 5 [some (.ref l0), some (.int l1), some (.ref l2), some (.int (s1 + s0)), some (.int (l4 + (nI 1)))] [] w := by
  refine (bu (ls'' := [some (.ref l0), some (.int l1), some (.ref l2), none, some (.int l4)]) (st' := [.int (s1 + s0)]) bf122_23 bf122_24 rfl rfl).trans ?_
  refine (bu (ls'' := [some (.ref l0), some (.int l1), some (.ref l2), some (.int (s1 + s0)), some (.int l4)]) (st' := []) bf122_24 bf122_25 rfl rfl).trans ?_
  refine (bu (ls'' := [some (.ref l0), some (.int l1), some (.ref l2), some (.int (s1 + s0)), some (.int (l4 + (nI 1)))]) (st' := []) bf122_25 bf122_28 rfl rfl).trans ?_
  refine (bu (ls'' := [some (.ref l0), some (.int l1), some (.ref l2), some (.int (s1 + s0)), some (.int (l4 + (nI 1)))]) (st' := []) bf122_28 bf122_5 rfl rfl).trans ?_
  rfl
theorem bf123_0 : am_fetch (am_mth 123) 0 = some (.iload_n 1, 1, [], [5]) := by decide +kernel
theorem bf123_1 : am_fetch (am_mth 123) 1 = some (.iload_n 2, 1, [], [1, 5]) := by decide +kernel
theorem bf123_2 : am_fetch (am_mth 123) 2 = some (.invokestatic 29, 3, [0, 76, 2, 187, 188, 47], [1, 2, 5]) := by decide +kernel
theorem bf123_5 : am_fetch (am_mth 123) 5 = some (.istore 5, 2, [], [1, 2, 5]) := by decide +kernel
theorem bf123_7 : am_fetch (am_mth 123) 7 = some (.iload 5, 2, [], [1, 2]) := by decide +kernel
theorem bf123_9 : am_fetch (am_mth 123) 9 = some (.invokestatic 32, 3, [0, 7, 1, 193, 194, 47], [1, 2]) := by decide +kernel
theorem bf123_12 : am_fetch (am_mth 123) 12 = some (.ifCond .eq 29, 3, [], [1, 2]) := by decide +kernel
theorem bf123_15 : am_fetch (am_mth 123) 15 = some (.aload_n 0, 1, [], [1, 2]) := by decide +kernel
theorem bf123_16 : am_fetch (am_mth 123) 16 = some (.getfield 11, 3, [0, 5, 0, 93], [1, 2]) := by decide +kernel
theorem bf123_19 : am_fetch (am_mth 123) 19 = some (.iload 5, 2, [], [1, 2]) := by decide +kernel
theorem bf123_21 : am_fetch (am_mth 123) 21 = some (.iload_n 3, 1, [], [1, 2]) := by decide +kernel
theorem bf123_22 : am_fetch (am_mth 123) 22 = some (.iastore, 1, [], [1, 2]) := by decide +kernel
theorem bf123_23 : am_fetch (am_mth 123) 23 = some (.aload_n 0, 1, [], [1, 2]) := by decide +kernel
theorem bf123_24 : am_fetch (am_mth 123) 24 = some (.getfield 15, 3, [0, 5, 1, 94], [0, 1, 2]) := by decide +kernel
theorem bf123_27 : am_fetch (am_mth 123) 27 = some (.iload 5, 2, [], [0, 1, 2]) := by decide +kernel
theorem bf123_29 : am_fetch (am_mth 123) 29 = some (.iload_n 3, 1, [], [0, 1, 2, 5]) := by decide +kernel
theorem bf123_30 : am_fetch (am_mth 123) 30 = some (.iconst 2, 1, [], [0, 1, 2, 3, 5]) := by decide +kernel
theorem bf123_31 : am_fetch (am_mth 123) 31 = some (.if_icmp .ne 8, 3, [], [0, 1, 2, 3, 5]) := by decide +kernel
theorem bf123_34 : am_fetch (am_mth 123) 34 = some (.iload 4, 2, [], [0, 1, 2, 3, 5]) := by decide +kernel
theorem bf123_36 : am_fetch (am_mth 123) 36 = some (.goto 4, 3, [], [0, 1, 2, 3, 4, 5]) := by decide +kernel
theorem bf123_39 : am_fetch (am_mth 123) 39 = some (.iconst 0, 1, [], [0, 1, 2, 3, 4, 5]) := by decide +kernel
theorem bf123_40 : am_fetch (am_mth 123) 40 = some (.iastore, 1, [], [0, 1, 2, 3, 4, 5]) := by decide +kernel
theorem bf123_41 : am_fetch (am_mth 123) 41 = some (.return_, 1, [], [0, 1, 2, 3, 4, 5]) := by decide +kernel
theorem bk123_0 {w : am_Wd} {l0 : Nat} {l1 : Int32} {l2 : Int32} {l3 : Int32} {l4 : Int32} : am_run 123 0 [some (.ref l0), some (.int l1), some (.int l2), some (.int l3), some (.int l4), none] [] w = (am_x 76 [.int l1, .int l2] w).bind fun r => bct r fun v w' => am_run 123 5 [some (.ref l0), none, none, some (.int l3), some (.int l4), none] (v.toList ++ []) w' := by
  refine (bu (ls'' := [some (.ref l0), none, some (.int l2), some (.int l3), some (.int l4), none]) (st' := [.int l1]) bf123_0 bf123_1 rfl rfl).trans ?_
  refine (bu (ls'' := [some (.ref l0), none, none, some (.int l3), some (.int l4), none]) (st' := [.int l2, .int l1]) bf123_1 bf123_2 rfl rfl).trans ?_
  exact bkS bf123_2 bf123_5 rfl (by decide +kernel) (Nat.le_of_ble_eq_true rfl) rfl (bhd rfl)
theorem bk123_5 {w : am_Wd} {l0 : Nat} {l3 : Int32} {l4 : Int32} {s0 : Int32} : am_run 123 5 [some (.ref l0), none, none, some (.int l3), some (.int l4), none] [.int s0] w = (am_x 7 [.int s0] w).bind fun r => bct r fun v w' => am_run 123 12 [some (.ref l0), none, none, some (.int l3), some (.int l4), some (.int s0)] (v.toList ++ []) w' := by
  refine (bu (ls'' := [some (.ref l0), none, none, some (.int l3), some (.int l4), some (.int s0)]) (st' := []) bf123_5 bf123_7 rfl rfl).trans ?_
  refine (bu (ls'' := [some (.ref l0), none, none, some (.int l3), some (.int l4), some (.int s0)]) (st' := [.int s0]) bf123_7 bf123_9 rfl rfl).trans ?_
  exact bkS bf123_9 bf123_12 rfl (by decide +kernel) (Nat.le_of_ble_eq_true rfl) rfl (bhd rfl)
theorem bk123_12 {w : am_Wd} {l0 : Nat} {l3 : Int32} {l4 : Int32} {l5 : Int32} {s0 : Int32} : am_run 123 12 [some (.ref l0), none, none, some (.int l3), some (.int l4), some (.int l5)] [.int s0] w = if s0 = nI 0 then am_run 123 41 [none, none, none, none, none, none] [] w else am_run 123 15 [some (.ref l0), none, none, some (.int l3), some (.int l4), some (.int l5)] [] w := by
  exact bifc bf123_12 rfl bf123_41 bf123_15 rfl rfl rfl
theorem bk123_41 {w : am_Wd}  : am_run 123 41 [none, none, none, none, none, none] [] w = some (.inl none, w) := by
  exact am_e2 bf123_41 rfl (am_ge_rf w)
theorem bk123_15 {w : am_Wd} {l0 : Nat} {l3 : Int32} {l4 : Int32} {l5 : Int32} : am_run 123 15 [some (.ref l0), none, none, some (.int l3), some (.int l4), some (.int l5)] [] w = (am_gf w l0 5 0).bind fun v => am_run 123 19 [some (.ref l0), none, none, some (.int l3), some (.int l4), some (.int l5)] (v :: []) w := by
  refine (bu (ls'' := [some (.ref l0), none, none, some (.int l3), some (.int l4), some (.int l5)]) (st' := [.ref l0]) bf123_15 bf123_16 rfl rfl).trans ?_
  exact bh bf123_16 bf123_19 rfl (fun _ _ => am_ge_rf w) rfl
theorem bk123_19 {w : am_Wd} {l0 : Nat} {l3 : Int32} {l4 : Int32} {l5 : Int32} {s0 : Nat} : am_run 123 19 [some (.ref l0), none, none, some (.int l3), some (.int l4), some (.int l5)] [.ref s0] w = (am_wi 0 w s0 l5 l3).bind fun w' => am_run 123 23 [some (.ref l0), none, none, some (.int l3), some (.int l4), some (.int l5)] [] w' := by
  refine (bu (ls'' := [some (.ref l0), none, none, some (.int l3), some (.int l4), some (.int l5)]) (st' := [.int l5, .ref s0]) bf123_19 bf123_21 rfl rfl).trans ?_
  refine (bu (ls'' := [some (.ref l0), none, none, some (.int l3), some (.int l4), some (.int l5)]) (st' := [.int l3, .int l5, .ref s0]) bf123_21 bf123_22 rfl rfl).trans ?_
  exact bh bf123_22 bf123_23 rfl (bge_wi) rfl
theorem bk123_23 {w : am_Wd} {l0 : Nat} {l3 : Int32} {l4 : Int32} {l5 : Int32} : am_run 123 23 [some (.ref l0), none, none, some (.int l3), some (.int l4), some (.int l5)] [] w = (am_gf w l0 5 1).bind fun v => am_run 123 27 [none, none, none, some (.int l3), some (.int l4), some (.int l5)] (v :: []) w := by
  refine (bu (ls'' := [none, none, none, some (.int l3), some (.int l4), some (.int l5)]) (st' := [.ref l0]) bf123_23 bf123_24 rfl rfl).trans ?_
  exact bh bf123_24 bf123_27 rfl (fun _ _ => am_ge_rf w) rfl
theorem bk123_27 {w : am_Wd} {l3 : Int32} {l4 : Int32} {l5 : Int32} {s0 : Nat} : am_run 123 27 [none, none, none, some (.int l3), some (.int l4), some (.int l5)] [.ref s0] w = if ¬ l3 = (nI 2) then am_run 123 39 [none, none, none, none, none, none] [.int l5, .ref s0] w else am_run 123 34 [none, none, none, none, some (.int l4), none] [.int l5, .ref s0] w := by
  refine (bu (ls'' := [none, none, none, some (.int l3), some (.int l4), none]) (st' := [.int l5, .ref s0]) bf123_27 bf123_29 rfl rfl).trans ?_
  refine (bu (ls'' := [none, none, none, none, some (.int l4), none]) (st' := [.int l3, .int l5, .ref s0]) bf123_29 bf123_30 rfl rfl).trans ?_
  refine (bu (ls'' := [none, none, none, none, some (.int l4), none]) (st' := [.int (nI 2), .int l3, .int l5, .ref s0]) bf123_30 bf123_31 rfl rfl).trans ?_
  exact bic bf123_31 rfl bf123_39 bf123_34 rfl rfl rfl
theorem bk123_39 {w : am_Wd} {s0 : Int32} {s1 : Nat} : am_run 123 39 [none, none, none, none, none, none] [.int s0, .ref s1] w = am_run 123 40 [none, none, none, none, none, none] [.int (nI 0), .int s0, .ref s1] w := by
  refine (bu (ls'' := [none, none, none, none, none, none]) (st' := [.int (nI 0), .int s0, .ref s1]) bf123_39 bf123_40 rfl rfl).trans ?_
  rfl
theorem bk123_34 {w : am_Wd} {l4 : Int32} {s0 : Int32} {s1 : Nat} : am_run 123 34 [none, none, none, none, some (.int l4), none] [.int s0, .ref s1] w = am_run 123 40 [none, none, none, none, none, none] [.int l4, .int s0, .ref s1] w := by
  refine (bu (ls'' := [none, none, none, none, none, none]) (st' := [.int l4, .int s0, .ref s1]) bf123_34 bf123_36 rfl rfl).trans ?_
  refine (bu (ls'' := [none, none, none, none, none, none]) (st' := [.int l4, .int s0, .ref s1]) bf123_36 bf123_40 rfl rfl).trans ?_
  rfl
theorem bk123_40 {w : am_Wd} {s0 : Int32} {s1 : Int32} {s2 : Nat} : am_run 123 40 [none, none, none, none, none, none] [.int s0, .int s1, .ref s2] w = (am_wi 0 w s2 s1 s0).bind fun w' => am_run 123 41 [none, none, none, none, none, none] [] w' := by
  exact bh bf123_40 bf123_41 rfl (bge_wi) rfl
theorem bf124_0 : am_fetch (am_mth 124) 0 = some (.iload_n 1, 1, [], [3]) := by decide +kernel
theorem bf124_1 : am_fetch (am_mth 124) 1 = some (.iload_n 2, 1, [], [1, 3]) := by decide +kernel
theorem bf124_2 : am_fetch (am_mth 124) 2 = some (.invokestatic 29, 3, [0, 76, 2, 187, 188, 47], [1, 2, 3]) := by decide +kernel
theorem bf124_5 : am_fetch (am_mth 124) 5 = some (.istore_n 3, 1, [], [1, 2, 3]) := by decide +kernel
theorem bf124_6 : am_fetch (am_mth 124) 6 = some (.iload_n 3, 1, [], [1, 2]) := by decide +kernel
theorem bf124_7 : am_fetch (am_mth 124) 7 = some (.invokestatic 32, 3, [0, 7, 1, 193, 194, 47], [1, 2]) := by decide +kernel
theorem bf124_10 : am_fetch (am_mth 124) 10 = some (.ifCond .eq 12, 3, [], [1, 2]) := by decide +kernel
theorem bf124_13 : am_fetch (am_mth 124) 13 = some (.aload_n 0, 1, [], [1, 2]) := by decide +kernel
theorem bf124_14 : am_fetch (am_mth 124) 14 = some (.getfield 11, 3, [0, 5, 0, 93], [0, 1, 2]) := by decide +kernel
theorem bf124_17 : am_fetch (am_mth 124) 17 = some (.iload_n 3, 1, [], [0, 1, 2]) := by decide +kernel
theorem bf124_18 : am_fetch (am_mth 124) 18 = some (.iaload, 1, [], [0, 1, 2, 3]) := by decide +kernel
theorem bf124_19 : am_fetch (am_mth 124) 19 = some (.goto 4, 3, [], [0, 1, 2, 3]) := by decide +kernel
theorem bf124_22 : am_fetch (am_mth 124) 22 = some (.iconst 1, 1, [], [0, 1, 2, 3]) := by decide +kernel
theorem bf124_23 : am_fetch (am_mth 124) 23 = some (.ireturn, 1, [0], [0, 1, 2, 3]) := by decide +kernel
theorem bk124_0 {w : am_Wd} {l0 : Nat} {l1 : Int32} {l2 : Int32} : am_run 124 0 [some (.ref l0), some (.int l1), some (.int l2), none] [] w = (am_x 76 [.int l1, .int l2] w).bind fun r => bct r fun v w' => am_run 124 5 [some (.ref l0), none, none, none] (v.toList ++ []) w' := by
  refine (bu (ls'' := [some (.ref l0), none, some (.int l2), none]) (st' := [.int l1]) bf124_0 bf124_1 rfl rfl).trans ?_
  refine (bu (ls'' := [some (.ref l0), none, none, none]) (st' := [.int l2, .int l1]) bf124_1 bf124_2 rfl rfl).trans ?_
  exact bkS bf124_2 bf124_5 rfl (by decide +kernel) (Nat.le_of_ble_eq_true rfl) rfl (bhd rfl)
theorem bk124_5 {w : am_Wd} {l0 : Nat} {s0 : Int32} : am_run 124 5 [some (.ref l0), none, none, none] [.int s0] w = (am_x 7 [.int s0] w).bind fun r => bct r fun v w' => am_run 124 10 [some (.ref l0), none, none, some (.int s0)] (v.toList ++ []) w' := by
  refine (bu (ls'' := [some (.ref l0), none, none, some (.int s0)]) (st' := []) bf124_5 bf124_6 rfl rfl).trans ?_
  refine (bu (ls'' := [some (.ref l0), none, none, some (.int s0)]) (st' := [.int s0]) bf124_6 bf124_7 rfl rfl).trans ?_
  exact bkS bf124_7 bf124_10 rfl (by decide +kernel) (Nat.le_of_ble_eq_true rfl) rfl (bhd rfl)
theorem bk124_10 {w : am_Wd} {l0 : Nat} {l3 : Int32} {s0 : Int32} : am_run 124 10 [some (.ref l0), none, none, some (.int l3)] [.int s0] w = if s0 = nI 0 then am_run 124 22 [none, none, none, none] [] w else am_run 124 13 [some (.ref l0), none, none, some (.int l3)] [] w := by
  exact bifc bf124_10 rfl bf124_22 bf124_13 rfl rfl rfl
theorem bk124_22 {w : am_Wd}  : am_run 124 22 [none, none, none, none] [] w = am_run 124 23 [none, none, none, none] [.int (nI 1)] w := by
  refine (bu (ls'' := [none, none, none, none]) (st' := [.int (nI 1)]) bf124_22 bf124_23 rfl rfl).trans ?_
  rfl
theorem bk124_13 {w : am_Wd} {l0 : Nat} {l3 : Int32} : am_run 124 13 [some (.ref l0), none, none, some (.int l3)] [] w = (am_gf w l0 5 0).bind fun v => am_run 124 17 [none, none, none, some (.int l3)] (v :: []) w := by
  refine (bu (ls'' := [none, none, none, some (.int l3)]) (st' := [.ref l0]) bf124_13 bf124_14 rfl rfl).trans ?_
  exact bh bf124_14 bf124_17 rfl (fun _ _ => am_ge_rf w) rfl
theorem bk124_23 {w : am_Wd} {s0 : Int32} : am_run 124 23 [none, none, none, none] [.int s0] w = some (.inl (some (.int s0)), w) := by
  exact am_e2 bf124_23 rfl (am_ge_rf w)
theorem bk124_17 {w : am_Wd} {l3 : Int32} {s0 : Nat} : am_run 124 17 [none, none, none, some (.int l3)] [.ref s0] w = (am_ri 0 w s0 l3).bind fun v => am_run 124 19 [none, none, none, none] (.int v :: []) w := by
  refine (bu (ls'' := [none, none, none, none]) (st' := [.int l3, .ref s0]) bf124_17 bf124_18 rfl rfl).trans ?_
  exact bh bf124_18 bf124_19 rfl (fun _ _ => am_ge_rf w) rfl
theorem bk124_19 {w : am_Wd} {s0 : Int32} : am_run 124 19 [none, none, none, none] [.int s0] w = am_run 124 23 [none, none, none, none] [.int s0] w := by
  refine (bu (ls'' := [none, none, none, none]) (st' := [.int s0]) bf124_19 bf124_23 rfl rfl).trans ?_
  rfl
theorem bf125_0 : am_fetch (am_mth 125) 0 = some (.iload_n 1, 1, [], [3]) := by decide +kernel
theorem bf125_1 : am_fetch (am_mth 125) 1 = some (.iload_n 2, 1, [], [1, 3]) := by decide +kernel
theorem bf125_2 : am_fetch (am_mth 125) 2 = some (.invokestatic 29, 3, [0, 76, 2, 187, 188, 47], [1, 2, 3]) := by decide +kernel
theorem bf125_5 : am_fetch (am_mth 125) 5 = some (.istore_n 3, 1, [], [1, 2, 3]) := by decide +kernel
theorem bf125_6 : am_fetch (am_mth 125) 6 = some (.iload_n 3, 1, [], [1, 2]) := by decide +kernel
theorem bf125_7 : am_fetch (am_mth 125) 7 = some (.invokestatic 32, 3, [0, 7, 1, 193, 194, 47], [1, 2]) := by decide +kernel
theorem bf125_10 : am_fetch (am_mth 125) 10 = some (.ifCond .eq 12, 3, [], [1, 2]) := by decide +kernel
theorem bf125_13 : am_fetch (am_mth 125) 13 = some (.aload_n 0, 1, [], [1, 2]) := by decide +kernel
theorem bf125_14 : am_fetch (am_mth 125) 14 = some (.getfield 15, 3, [0, 5, 1, 94], [0, 1, 2]) := by decide +kernel
theorem bf125_17 : am_fetch (am_mth 125) 17 = some (.iload_n 3, 1, [], [0, 1, 2]) := by decide +kernel
theorem bf125_18 : am_fetch (am_mth 125) 18 = some (.iaload, 1, [], [0, 1, 2, 3]) := by decide +kernel
theorem bf125_19 : am_fetch (am_mth 125) 19 = some (.goto 4, 3, [], [0, 1, 2, 3]) := by decide +kernel
theorem bf125_22 : am_fetch (am_mth 125) 22 = some (.iconst 0, 1, [], [0, 1, 2, 3]) := by decide +kernel
theorem bf125_23 : am_fetch (am_mth 125) 23 = some (.ireturn, 1, [0], [0, 1, 2, 3]) := by decide +kernel
theorem bk125_0 {w : am_Wd} {l0 : Nat} {l1 : Int32} {l2 : Int32} : am_run 125 0 [some (.ref l0), some (.int l1), some (.int l2), none] [] w = (am_x 76 [.int l1, .int l2] w).bind fun r => bct r fun v w' => am_run 125 5 [some (.ref l0), none, none, none] (v.toList ++ []) w' := by
  refine (bu (ls'' := [some (.ref l0), none, some (.int l2), none]) (st' := [.int l1]) bf125_0 bf125_1 rfl rfl).trans ?_
  refine (bu (ls'' := [some (.ref l0), none, none, none]) (st' := [.int l2, .int l1]) bf125_1 bf125_2 rfl rfl).trans ?_
  exact bkS bf125_2 bf125_5 rfl (by decide +kernel) (Nat.le_of_ble_eq_true rfl) rfl (bhd rfl)
theorem bk125_5 {w : am_Wd} {l0 : Nat} {s0 : Int32} : am_run 125 5 [some (.ref l0), none, none, none] [.int s0] w = (am_x 7 [.int s0] w).bind fun r => bct r fun v w' => am_run 125 10 [some (.ref l0), none, none, some (.int s0)] (v.toList ++ []) w' := by
  refine (bu (ls'' := [some (.ref l0), none, none, some (.int s0)]) (st' := []) bf125_5 bf125_6 rfl rfl).trans ?_
  refine (bu (ls'' := [some (.ref l0), none, none, some (.int s0)]) (st' := [.int s0]) bf125_6 bf125_7 rfl rfl).trans ?_
  exact bkS bf125_7 bf125_10 rfl (by decide +kernel) (Nat.le_of_ble_eq_true rfl) rfl (bhd rfl)
theorem bk125_10 {w : am_Wd} {l0 : Nat} {l3 : Int32} {s0 : Int32} : am_run 125 10 [some (.ref l0), none, none, some (.int l3)] [.int s0] w = if s0 = nI 0 then am_run 125 22 [none, none, none, none] [] w else am_run 125 13 [some (.ref l0), none, none, some (.int l3)] [] w := by
  exact bifc bf125_10 rfl bf125_22 bf125_13 rfl rfl rfl
theorem bk125_22 {w : am_Wd}  : am_run 125 22 [none, none, none, none] [] w = am_run 125 23 [none, none, none, none] [.int (nI 0)] w := by
  refine (bu (ls'' := [none, none, none, none]) (st' := [.int (nI 0)]) bf125_22 bf125_23 rfl rfl).trans ?_
  rfl
theorem bk125_13 {w : am_Wd} {l0 : Nat} {l3 : Int32} : am_run 125 13 [some (.ref l0), none, none, some (.int l3)] [] w = (am_gf w l0 5 1).bind fun v => am_run 125 17 [none, none, none, some (.int l3)] (v :: []) w := by
  refine (bu (ls'' := [none, none, none, some (.int l3)]) (st' := [.ref l0]) bf125_13 bf125_14 rfl rfl).trans ?_
  exact bh bf125_14 bf125_17 rfl (fun _ _ => am_ge_rf w) rfl
theorem bk125_23 {w : am_Wd} {s0 : Int32} : am_run 125 23 [none, none, none, none] [.int s0] w = some (.inl (some (.int s0)), w) := by
  exact am_e2 bf125_23 rfl (am_ge_rf w)
theorem bk125_17 {w : am_Wd} {l3 : Int32} {s0 : Nat} : am_run 125 17 [none, none, none, some (.int l3)] [.ref s0] w = (am_ri 0 w s0 l3).bind fun v => am_run 125 19 [none, none, none, none] (.int v :: []) w := by
  refine (bu (ls'' := [none, none, none, none]) (st' := [.int l3, .ref s0]) bf125_17 bf125_18 rfl rfl).trans ?_
  exact bh bf125_18 bf125_19 rfl (fun _ _ => am_ge_rf w) rfl
theorem bk125_19 {w : am_Wd} {s0 : Int32} : am_run 125 19 [none, none, none, none] [.int s0] w = am_run 125 23 [none, none, none, none] [.int s0] w := by
  refine (bu (ls'' := [none, none, none, none]) (st' := [.int s0]) bf125_19 bf125_23 rfl rfl).trans ?_
  rfl
theorem bf126_0 : am_fetch (am_mth 126) 0 = some (.iload_n 1, 1, [], [4]) := by decide +kernel
theorem bf126_1 : am_fetch (am_mth 126) 1 = some (.iload_n 2, 1, [], [1, 4]) := by decide +kernel
theorem bf126_2 : am_fetch (am_mth 126) 2 = some (.invokestatic 29, 3, [0, 76, 2, 187, 188, 47], [1, 2, 4]) := by decide +kernel
theorem bf126_5 : am_fetch (am_mth 126) 5 = some (.istore 4, 2, [], [1, 2, 4]) := by decide +kernel
theorem bf126_7 : am_fetch (am_mth 126) 7 = some (.iload 4, 2, [], [1, 2]) := by decide +kernel
theorem bf126_9 : am_fetch (am_mth 126) 9 = some (.invokestatic 32, 3, [0, 7, 1, 193, 194, 47], [1, 2]) := by decide +kernel
theorem bf126_12 : am_fetch (am_mth 126) 12 = some (.ifCond .eq 14, 3, [], [1, 2]) := by decide +kernel
theorem bf126_15 : am_fetch (am_mth 126) 15 = some (.aload_n 0, 1, [], [1, 2]) := by decide +kernel
theorem bf126_16 : am_fetch (am_mth 126) 16 = some (.getfield 11, 3, [0, 5, 0, 93], [1, 2]) := by decide +kernel
theorem bf126_19 : am_fetch (am_mth 126) 19 = some (.iload 4, 2, [], [1, 2]) := by decide +kernel
theorem bf126_21 : am_fetch (am_mth 126) 21 = some (.iaload, 1, [], [1, 2]) := by decide +kernel
theorem bf126_22 : am_fetch (am_mth 126) 22 = some (.iconst 1, 1, [], [1, 2]) := by decide +kernel
theorem bf126_23 : am_fetch (am_mth 126) 23 = some (.if_icmp .ne 5, 3, [], [1, 2]) := by decide +kernel
theorem bf126_26 : am_fetch (am_mth 126) 26 = some (.iconst 1, 1, [], [0, 1, 2, 3, 4]) := by decide +kernel
theorem bf126_27 : am_fetch (am_mth 126) 27 = some (.ireturn, 1, [1], [0, 1, 2, 3, 4]) := by decide +kernel
theorem bf126_28 : am_fetch (am_mth 126) 28 = some (.aload_n 0, 1, [], [1, 2]) := by decide +kernel
theorem bf126_29 : am_fetch (am_mth 126) 29 = some (.getfield 11, 3, [0, 5, 0, 93], [1, 2]) := by decide +kernel
theorem bf126_32 : am_fetch (am_mth 126) 32 = some (.iload 4, 2, [], [1, 2]) := by decide +kernel
theorem bf126_34 : am_fetch (am_mth 126) 34 = some (.iaload, 1, [], [1, 2]) := by decide +kernel
theorem bf126_35 : am_fetch (am_mth 126) 35 = some (.iconst 2, 1, [], [1, 2]) := by decide +kernel
theorem bf126_36 : am_fetch (am_mth 126) 36 = some (.if_icmp .ne 21, 3, [], [1, 2]) := by decide +kernel
theorem bf126_39 : am_fetch (am_mth 126) 39 = some (.aload_n 0, 1, [], [1, 2]) := by decide +kernel
theorem bf126_40 : am_fetch (am_mth 126) 40 = some (.getfield 15, 3, [0, 5, 1, 94], [0, 1, 2]) := by decide +kernel
theorem bf126_43 : am_fetch (am_mth 126) 43 = some (.iload 4, 2, [], [0, 1, 2]) := by decide +kernel
theorem bf126_45 : am_fetch (am_mth 126) 45 = some (.iaload, 1, [], [0, 1, 2, 4]) := by decide +kernel
theorem bf126_46 : am_fetch (am_mth 126) 46 = some (.iload_n 3, 1, [], [0, 1, 2, 4]) := by decide +kernel
theorem bf126_47 : am_fetch (am_mth 126) 47 = some (.invokestatic 53, 3, [0, 9, 2, 196, 197, 47], [0, 1, 2, 3, 4]) := by decide +kernel
theorem bf126_50 : am_fetch (am_mth 126) 50 = some (.ifCond .ne 7, 3, [], [0, 1, 2, 3, 4]) := by decide +kernel
theorem bf126_53 : am_fetch (am_mth 126) 53 = some (.iconst 1, 1, [], [0, 1, 2, 3, 4]) := by decide +kernel
theorem bf126_54 : am_fetch (am_mth 126) 54 = some (.goto 4, 3, [], [0, 1, 2, 3, 4]) := by decide +kernel
theorem bf126_57 : am_fetch (am_mth 126) 57 = some (.iconst 0, 1, [], [0, 1, 2, 3, 4]) := by decide +kernel
theorem bf126_58 : am_fetch (am_mth 126) 58 = some (.ireturn, 1, [1], [0, 1, 2, 3, 4]) := by decide +kernel
theorem bk126_0 {w : am_Wd} {l0 : Nat} {l1 : Int32} {l2 : Int32} {l3 : Int32} : am_run 126 0 [some (.ref l0), some (.int l1), some (.int l2), some (.int l3), none] [] w = (am_x 76 [.int l1, .int l2] w).bind fun r => bct r fun v w' => am_run 126 5 [some (.ref l0), none, none, some (.int l3), none] (v.toList ++ []) w' := by
  refine (bu (ls'' := [some (.ref l0), none, some (.int l2), some (.int l3), none]) (st' := [.int l1]) bf126_0 bf126_1 rfl rfl).trans ?_
  refine (bu (ls'' := [some (.ref l0), none, none, some (.int l3), none]) (st' := [.int l2, .int l1]) bf126_1 bf126_2 rfl rfl).trans ?_
  exact bkS bf126_2 bf126_5 rfl (by decide +kernel) (Nat.le_of_ble_eq_true rfl) rfl (bhd rfl)
theorem bk126_5 {w : am_Wd} {l0 : Nat} {l3 : Int32} {s0 : Int32} : am_run 126 5 [some (.ref l0), none, none, some (.int l3), none] [.int s0] w = (am_x 7 [.int s0] w).bind fun r => bct r fun v w' => am_run 126 12 [some (.ref l0), none, none, some (.int l3), some (.int s0)] (v.toList ++ []) w' := by
  refine (bu (ls'' := [some (.ref l0), none, none, some (.int l3), some (.int s0)]) (st' := []) bf126_5 bf126_7 rfl rfl).trans ?_
  refine (bu (ls'' := [some (.ref l0), none, none, some (.int l3), some (.int s0)]) (st' := [.int s0]) bf126_7 bf126_9 rfl rfl).trans ?_
  exact bkS bf126_9 bf126_12 rfl (by decide +kernel) (Nat.le_of_ble_eq_true rfl) rfl (bhd rfl)
theorem bk126_12 {w : am_Wd} {l0 : Nat} {l3 : Int32} {l4 : Int32} {s0 : Int32} : am_run 126 12 [some (.ref l0), none, none, some (.int l3), some (.int l4)] [.int s0] w = if s0 = nI 0 then am_run 126 26 [none, none, none, none, none] [] w else am_run 126 15 [some (.ref l0), none, none, some (.int l3), some (.int l4)] [] w := by
  exact bifc bf126_12 rfl bf126_26 bf126_15 rfl rfl rfl
theorem bk126_26 {w : am_Wd}  : am_run 126 26 [none, none, none, none, none] [] w = some (.inl (some (.int (nI 1))), w) := by
  refine (bu (ls'' := [none, none, none, none, none]) (st' := [.int (nI 1)]) bf126_26 bf126_27 rfl rfl).trans ?_
  exact am_e2 bf126_27 rfl (am_ge_rf w)
theorem bk126_15 {w : am_Wd} {l0 : Nat} {l3 : Int32} {l4 : Int32} : am_run 126 15 [some (.ref l0), none, none, some (.int l3), some (.int l4)] [] w = (am_gf w l0 5 0).bind fun v => am_run 126 19 [some (.ref l0), none, none, some (.int l3), some (.int l4)] (v :: []) w := by
  refine (bu (ls'' := [some (.ref l0), none, none, some (.int l3), some (.int l4)]) (st' := [.ref l0]) bf126_15 bf126_16 rfl rfl).trans ?_
  exact bh bf126_16 bf126_19 rfl (fun _ _ => am_ge_rf w) rfl
theorem bk126_19 {w : am_Wd} {l0 : Nat} {l3 : Int32} {l4 : Int32} {s0 : Nat} : am_run 126 19 [some (.ref l0), none, none, some (.int l3), some (.int l4)] [.ref s0] w = (am_ri 0 w s0 l4).bind fun v => am_run 126 22 [some (.ref l0), none, none, some (.int l3), some (.int l4)] (.int v :: []) w := by
  refine (bu (ls'' := [some (.ref l0), none, none, some (.int l3), some (.int l4)]) (st' := [.int l4, .ref s0]) bf126_19 bf126_21 rfl rfl).trans ?_
  exact bh bf126_21 bf126_22 rfl (fun _ _ => am_ge_rf w) rfl
theorem bk126_22 {w : am_Wd} {l0 : Nat} {l3 : Int32} {l4 : Int32} {s0 : Int32} : am_run 126 22 [some (.ref l0), none, none, some (.int l3), some (.int l4)] [.int s0] w = if ¬ s0 = (nI 1) then am_run 126 28 [some (.ref l0), none, none, some (.int l3), some (.int l4)] [] w else am_run 126 26 [none, none, none, none, none] [] w := by
  refine (bu (ls'' := [some (.ref l0), none, none, some (.int l3), some (.int l4)]) (st' := [.int (nI 1), .int s0]) bf126_22 bf126_23 rfl rfl).trans ?_
  exact bic bf126_23 rfl bf126_28 bf126_26 rfl rfl rfl
theorem bk126_28 {w : am_Wd} {l0 : Nat} {l3 : Int32} {l4 : Int32} : am_run 126 28 [some (.ref l0), none, none, some (.int l3), some (.int l4)] [] w = (am_gf w l0 5 0).bind fun v => am_run 126 32 [some (.ref l0), none, none, some (.int l3), some (.int l4)] (v :: []) w := by
  refine (bu (ls'' := [some (.ref l0), none, none, some (.int l3), some (.int l4)]) (st' := [.ref l0]) bf126_28 bf126_29 rfl rfl).trans ?_
  exact bh bf126_29 bf126_32 rfl (fun _ _ => am_ge_rf w) rfl
theorem bk126_32 {w : am_Wd} {l0 : Nat} {l3 : Int32} {l4 : Int32} {s0 : Nat} : am_run 126 32 [some (.ref l0), none, none, some (.int l3), some (.int l4)] [.ref s0] w = (am_ri 0 w s0 l4).bind fun v => am_run 126 35 [some (.ref l0), none, none, some (.int l3), some (.int l4)] (.int v :: []) w := by
  refine (bu (ls'' := [some (.ref l0), none, none, some (.int l3), some (.int l4)]) (st' := [.int l4, .ref s0]) bf126_32 bf126_34 rfl rfl).trans ?_
  exact bh bf126_34 bf126_35 rfl (fun _ _ => am_ge_rf w) rfl
theorem bk126_35 {w : am_Wd} {l0 : Nat} {l3 : Int32} {l4 : Int32} {s0 : Int32} : am_run 126 35 [some (.ref l0), none, none, some (.int l3), some (.int l4)] [.int s0] w = if ¬ s0 = (nI 2) then am_run 126 57 [none, none, none, none, none] [] w else am_run 126 39 [some (.ref l0), none, none, some (.int l3), some (.int l4)] [] w := by
  refine (bu (ls'' := [some (.ref l0), none, none, some (.int l3), some (.int l4)]) (st' := [.int (nI 2), .int s0]) bf126_35 bf126_36 rfl rfl).trans ?_
  exact bic bf126_36 rfl bf126_57 bf126_39 rfl rfl rfl
theorem bk126_57 {w : am_Wd}  : am_run 126 57 [none, none, none, none, none] [] w = am_run 126 58 [none, none, none, none, none] [.int (nI 0)] w := by
  refine (bu (ls'' := [none, none, none, none, none]) (st' := [.int (nI 0)]) bf126_57 bf126_58 rfl rfl).trans ?_
  rfl
theorem bk126_39 {w : am_Wd} {l0 : Nat} {l3 : Int32} {l4 : Int32} : am_run 126 39 [some (.ref l0), none, none, some (.int l3), some (.int l4)] [] w = (am_gf w l0 5 1).bind fun v => am_run 126 43 [none, none, none, some (.int l3), some (.int l4)] (v :: []) w := by
  refine (bu (ls'' := [none, none, none, some (.int l3), some (.int l4)]) (st' := [.ref l0]) bf126_39 bf126_40 rfl rfl).trans ?_
  exact bh bf126_40 bf126_43 rfl (fun _ _ => am_ge_rf w) rfl
theorem bk126_58 {w : am_Wd} {s0 : Int32} (hb : am_ok (am_rt 1) (.int s0) = true) : am_run 126 58 [none, none, none, none, none] [.int s0] w = some (.inl (some (.int s0)), w) := by
  exact am_e2 bf126_58 (by unfold am_stp; exact if_pos ⟨by decide, hb⟩) (am_ge_rf w)
theorem bk126_43 {w : am_Wd} {l3 : Int32} {l4 : Int32} {s0 : Nat} : am_run 126 43 [none, none, none, some (.int l3), some (.int l4)] [.ref s0] w = (am_ri 0 w s0 l4).bind fun v => am_run 126 46 [none, none, none, some (.int l3), none] (.int v :: []) w := by
  refine (bu (ls'' := [none, none, none, some (.int l3), none]) (st' := [.int l4, .ref s0]) bf126_43 bf126_45 rfl rfl).trans ?_
  exact bh bf126_45 bf126_46 rfl (fun _ _ => am_ge_rf w) rfl
theorem bk126_46 {w : am_Wd} {l3 : Int32} {s0 : Int32} : am_run 126 46 [none, none, none, some (.int l3), none] [.int s0] w = (am_x 9 [.int s0, .int l3] w).bind fun r => bct r fun v w' => am_run 126 50 [none, none, none, none, none] (v.toList ++ []) w' := by
  refine (bu (ls'' := [none, none, none, none, none]) (st' := [.int l3, .int s0]) bf126_46 bf126_47 rfl rfl).trans ?_
  exact bkS bf126_47 bf126_50 rfl (by decide +kernel) (Nat.le_of_ble_eq_true rfl) rfl (bhd rfl)
theorem bk126_50 {w : am_Wd} {s0 : Int32} : am_run 126 50 [none, none, none, none, none] [.int s0] w = if ¬ s0 = nI 0 then am_run 126 57 [none, none, none, none, none] [] w else am_run 126 53 [none, none, none, none, none] [] w := by
  exact bifc bf126_50 rfl bf126_57 bf126_53 rfl rfl rfl
theorem bk126_53 {w : am_Wd}  : am_run 126 53 [none, none, none, none, none] [] w = am_run 126 58 [none, none, none, none, none] [.int (nI 1)] w := by
  refine (bu (ls'' := [none, none, none, none, none]) (st' := [.int (nI 1)]) bf126_53 bf126_54 rfl rfl).trans ?_
  refine (bu (ls'' := [none, none, none, none, none]) (st' := [.int (nI 1)]) bf126_54 bf126_58 rfl rfl).trans ?_
  rfl
theorem bf127_0 : am_fetch (am_mth 127) 0 = some (.aload_n 0, 1, [], []) := by decide +kernel
theorem bf127_1 : am_fetch (am_mth 127) 1 = some (.invokespecial 3, 3, [1, 565, 85, 86], []) := by decide +kernel
theorem bf127_4 : am_fetch (am_mth 127) 4 = some (.aload_n 0, 1, [], []) := by decide +kernel
theorem bf127_5 : am_fetch (am_mth 127) 5 = some (.new 9, 3, [0, 7, 2, 566, 393, 64], []) := by decide +kernel
theorem bf127_8 : am_fetch (am_mth 127) 8 = some (.dup, 1, [], []) := by decide +kernel
theorem bf127_9 : am_fetch (am_mth 127) 9 = some (.invokespecial 11, 3, [0, 80, 0, 567, 568, 64], []) := by decide +kernel
theorem bf127_12 : am_fetch (am_mth 127) 12 = some (.putfield 12, 3, [0, 6, 1, 612], []) := by decide +kernel
theorem bf127_15 : am_fetch (am_mth 127) 15 = some (.aload_n 0, 1, [], []) := by decide +kernel
theorem bf127_16 : am_fetch (am_mth 127) 16 = some (.new 18, 3, [0, 4, 1, 591, 436, 65], []) := by decide +kernel
theorem bf127_19 : am_fetch (am_mth 127) 19 = some (.dup, 1, [], []) := by decide +kernel
theorem bf127_20 : am_fetch (am_mth 127) 20 = some (.invokespecial 20, 3, [0, 0, 0, 592, 593, 65], []) := by decide +kernel
theorem bf127_23 : am_fetch (am_mth 127) 23 = some (.putfield 21, 3, [0, 6, 2, 614], []) := by decide +kernel
theorem bf127_26 : am_fetch (am_mth 127) 26 = some (.aload_n 0, 1, [], []) := by decide +kernel
theorem bf127_27 : am_fetch (am_mth 127) 27 = some (.iload_n 1, 1, [], []) := by decide +kernel
theorem bf127_28 : am_fetch (am_mth 127) 28 = some (.putfield 25, 3, [0, 6, 0, 610], []) := by decide +kernel
theorem bf127_31 : am_fetch (am_mth 127) 31 = some (.aload_n 0, 1, [], []) := by decide +kernel
theorem bf127_32 : am_fetch (am_mth 127) 32 = some (.iload_n 1, 1, [], []) := by decide +kernel
theorem bf127_33 : am_fetch (am_mth 127) 33 = some (.iconst 4, 1, [], [1]) := by decide +kernel
theorem bf127_34 : am_fetch (am_mth 127) 34 = some (.imul, 1, [], [1]) := by decide +kernel
theorem bf127_35 : am_fetch (am_mth 127) 35 = some (.iload_n 2, 1, [], [1]) := by decide +kernel
theorem bf127_36 : am_fetch (am_mth 127) 36 = some (.iadd, 1, [], [1, 2]) := by decide +kernel
theorem bf127_37 : am_fetch (am_mth 127) 37 = some (.putfield 29, 3, [0, 6, 3, 616], [1, 2]) := by decide +kernel
theorem bf127_40 : am_fetch (am_mth 127) 40 = some (.aload_n 0, 1, [], [1, 2]) := by decide +kernel
theorem bf127_41 : am_fetch (am_mth 127) 41 = some (.iload_n 3, 1, [], [1, 2]) := by decide +kernel
theorem bf127_42 : am_fetch (am_mth 127) 42 = some (.putfield 32, 3, [0, 6, 4, 618], [1, 2, 3]) := by decide +kernel
theorem bf127_45 : am_fetch (am_mth 127) 45 = some (.iload 4, 2, [], [1, 2, 3]) := by decide +kernel
theorem bf127_47 : am_fetch (am_mth 127) 47 = some (.ifCond .eq 17, 3, [], [1, 2, 3, 4]) := by decide +kernel
theorem bf127_50 : am_fetch (am_mth 127) 50 = some (.aload_n 0, 1, [], [1, 2, 3, 4]) := by decide +kernel
theorem bf127_51 : am_fetch (am_mth 127) 51 = some (.getfield 21, 3, [0, 6, 2, 614], [1, 2, 3, 4]) := by decide +kernel
theorem bf127_54 : am_fetch (am_mth 127) 54 = some (.aload_n 0, 1, [], [1, 2, 3, 4]) := by decide +kernel
theorem bf127_55 : am_fetch (am_mth 127) 55 = some (.getfield 29, 3, [0, 6, 3, 616], [0, 1, 2, 3, 4]) := by decide +kernel
theorem bf127_58 : am_fetch (am_mth 127) 58 = some (.invokevirtual 35, 3, [0, 2, 1, 4, 601, 602, 603, 65], [0, 1, 2, 3, 4]) := by decide +kernel
theorem bf127_61 : am_fetch (am_mth 127) 61 = some (.goto 10, 3, [], [0, 1, 2, 3, 4]) := by decide +kernel
theorem bf127_64 : am_fetch (am_mth 127) 64 = some (.aload_n 0, 1, [], [1, 2, 3, 4]) := by decide +kernel
theorem bf127_65 : am_fetch (am_mth 127) 65 = some (.getfield 21, 3, [0, 6, 2, 614], [0, 1, 2, 3, 4]) := by decide +kernel
theorem bf127_68 : am_fetch (am_mth 127) 68 = some (.invokevirtual 39, 3, [0, 1, 0, 4, 605, 606, 607, 65], [0, 1, 2, 3, 4]) := by decide +kernel
theorem bf127_71 : am_fetch (am_mth 127) 71 = some (.return_, 1, [], [0, 1, 2, 3, 4]) := by decide +kernel
theorem bk127_0 {w : am_Wd} {l0 : Nat} {l1 : Int32} {l2 : Int32} {l3 : Int32} {l4 : Int32} : am_run 127 0 [some (.ref l0), some (.int l1), some (.int l2), some (.int l3), some (.int l4)] [] w = am_run 127 8 [some (.ref l0), some (.int l1), some (.int l2), some (.int l3), some (.int l4)] (.ref w.2.1 :: [.ref l0]) (am_nw w (.inr (7, am_df 7 2)) 2) := by
  refine (bu (ls'' := [some (.ref l0), some (.int l1), some (.int l2), some (.int l3), some (.int l4)]) (st' := [.ref l0]) bf127_0 bf127_1 rfl rfl).trans ?_
  refine (bu (ls'' := [some (.ref l0), some (.int l1), some (.int l2), some (.int l3), some (.int l4)]) (st' := []) bf127_1 bf127_4 rfl rfl).trans ?_
  refine (bu (ls'' := [some (.ref l0), some (.int l1), some (.int l2), some (.int l3), some (.int l4)]) (st' := [.ref l0]) bf127_4 bf127_5 rfl rfl).trans ?_
  exact bn bf127_5 bf127_8 rfl rfl (am_ge_nw _ _ _)
theorem bk127_8 {w : am_Wd} {l0 : Nat} {l1 : Int32} {l2 : Int32} {l3 : Int32} {l4 : Int32} {s0 : Nat} {s1 : Nat} : am_run 127 8 [some (.ref l0), some (.int l1), some (.int l2), some (.int l3), some (.int l4)] [.ref s0, .ref s1] w = (am_x 80 [.ref s0] w).bind fun r => bct r fun v w' => am_run 127 12 [some (.ref l0), some (.int l1), some (.int l2), some (.int l3), some (.int l4)] (v.toList ++ [.ref s0, .ref s1]) w' := by
  refine (bu (ls'' := [some (.ref l0), some (.int l1), some (.int l2), some (.int l3), some (.int l4)]) (st' := [.ref s0, .ref s0, .ref s1]) bf127_8 bf127_9 rfl rfl).trans ?_
  exact bkS bf127_9 bf127_12 rfl (by decide +kernel) (Nat.le_of_ble_eq_true rfl) rfl (bhd rfl)
theorem bk127_12 {w : am_Wd} {l0 : Nat} {l1 : Int32} {l2 : Int32} {l3 : Int32} {l4 : Int32} {s0 : Nat} {s1 : Nat} : am_run 127 12 [some (.ref l0), some (.int l1), some (.int l2), some (.int l3), some (.int l4)] [.ref s0, .ref s1] w = (am_pf w s1 6 1 (.ref s0)).bind fun w' => am_run 127 15 [some (.ref l0), some (.int l1), some (.int l2), some (.int l3), some (.int l4)] [] w' := by
  exact bh bf127_12 bf127_15 rfl (bge_pf) rfl
theorem bk127_15 {w : am_Wd} {l0 : Nat} {l1 : Int32} {l2 : Int32} {l3 : Int32} {l4 : Int32} : am_run 127 15 [some (.ref l0), some (.int l1), some (.int l2), some (.int l3), some (.int l4)] [] w = am_run 127 19 [some (.ref l0), some (.int l1), some (.int l2), some (.int l3), some (.int l4)] (.ref w.2.1 :: [.ref l0]) (am_nw w (.inr (4, am_df 4 1)) 1) := by
  refine (bu (ls'' := [some (.ref l0), some (.int l1), some (.int l2), some (.int l3), some (.int l4)]) (st' := [.ref l0]) bf127_15 bf127_16 rfl rfl).trans ?_
  exact bn bf127_16 bf127_19 rfl rfl (am_ge_nw _ _ _)
theorem bk127_19 {w : am_Wd} {l0 : Nat} {l1 : Int32} {l2 : Int32} {l3 : Int32} {l4 : Int32} {s0 : Nat} {s1 : Nat} : am_run 127 19 [some (.ref l0), some (.int l1), some (.int l2), some (.int l3), some (.int l4)] [.ref s0, .ref s1] w = (am_x 0 [.ref s0] w).bind fun r => bct r fun v w' => am_run 127 23 [some (.ref l0), some (.int l1), some (.int l2), some (.int l3), some (.int l4)] (v.toList ++ [.ref s0, .ref s1]) w' := by
  refine (bu (ls'' := [some (.ref l0), some (.int l1), some (.int l2), some (.int l3), some (.int l4)]) (st' := [.ref s0, .ref s0, .ref s1]) bf127_19 bf127_20 rfl rfl).trans ?_
  exact bkS bf127_20 bf127_23 rfl (by decide +kernel) (Nat.le_of_ble_eq_true rfl) rfl (bhd rfl)
theorem bk127_23 {w : am_Wd} {l0 : Nat} {l1 : Int32} {l2 : Int32} {l3 : Int32} {l4 : Int32} {s0 : Nat} {s1 : Nat} : am_run 127 23 [some (.ref l0), some (.int l1), some (.int l2), some (.int l3), some (.int l4)] [.ref s0, .ref s1] w = (am_pf w s1 6 2 (.ref s0)).bind fun w' => am_run 127 26 [some (.ref l0), some (.int l1), some (.int l2), some (.int l3), some (.int l4)] [] w' := by
  exact bh bf127_23 bf127_26 rfl (bge_pf) rfl
theorem bk127_26 {w : am_Wd} {l0 : Nat} {l1 : Int32} {l2 : Int32} {l3 : Int32} {l4 : Int32} : am_run 127 26 [some (.ref l0), some (.int l1), some (.int l2), some (.int l3), some (.int l4)] [] w = (am_pf w l0 6 0 (.int l1)).bind fun w' => am_run 127 31 [some (.ref l0), some (.int l1), some (.int l2), some (.int l3), some (.int l4)] [] w' := by
  refine (bu (ls'' := [some (.ref l0), some (.int l1), some (.int l2), some (.int l3), some (.int l4)]) (st' := [.ref l0]) bf127_26 bf127_27 rfl rfl).trans ?_
  refine (bu (ls'' := [some (.ref l0), some (.int l1), some (.int l2), some (.int l3), some (.int l4)]) (st' := [.int l1, .ref l0]) bf127_27 bf127_28 rfl rfl).trans ?_
  exact bh bf127_28 bf127_31 rfl (bge_pf) rfl
theorem bk127_31 {w : am_Wd} {l0 : Nat} {l1 : Int32} {l2 : Int32} {l3 : Int32} {l4 : Int32} : am_run 127 31 [some (.ref l0), some (.int l1), some (.int l2), some (.int l3), some (.int l4)] [] w = (am_pf w l0 6 3 (.int ((l1 * (nI 4)) + l2))).bind fun w' => am_run 127 40 [some (.ref l0), none, none, some (.int l3), some (.int l4)] [] w' := by
  refine (bu (ls'' := [some (.ref l0), some (.int l1), some (.int l2), some (.int l3), some (.int l4)]) (st' := [.ref l0]) bf127_31 bf127_32 rfl rfl).trans ?_
  refine (bu (ls'' := [some (.ref l0), none, some (.int l2), some (.int l3), some (.int l4)]) (st' := [.int l1, .ref l0]) bf127_32 bf127_33 rfl rfl).trans ?_
  refine (bu (ls'' := [some (.ref l0), none, some (.int l2), some (.int l3), some (.int l4)]) (st' := [.int (nI 4), .int l1, .ref l0]) bf127_33 bf127_34 rfl rfl).trans ?_
  refine (bu (ls'' := [some (.ref l0), none, some (.int l2), some (.int l3), some (.int l4)]) (st' := [.int (l1 * (nI 4)), .ref l0]) bf127_34 bf127_35 rfl rfl).trans ?_
  refine (bu (ls'' := [some (.ref l0), none, none, some (.int l3), some (.int l4)]) (st' := [.int l2, .int (l1 * (nI 4)), .ref l0]) bf127_35 bf127_36 rfl rfl).trans ?_
  refine (bu (ls'' := [some (.ref l0), none, none, some (.int l3), some (.int l4)]) (st' := [.int ((l1 * (nI 4)) + l2), .ref l0]) bf127_36 bf127_37 rfl rfl).trans ?_
  exact bh bf127_37 bf127_40 rfl (bge_pf) rfl
theorem bk127_40 {w : am_Wd} {l0 : Nat} {l3 : Int32} {l4 : Int32} : am_run 127 40 [some (.ref l0), none, none, some (.int l3), some (.int l4)] [] w = (am_pf w l0 6 4 (.int l3)).bind fun w' => am_run 127 45 [some (.ref l0), none, none, none, some (.int l4)] [] w' := by
  refine (bu (ls'' := [some (.ref l0), none, none, some (.int l3), some (.int l4)]) (st' := [.ref l0]) bf127_40 bf127_41 rfl rfl).trans ?_
  refine (bu (ls'' := [some (.ref l0), none, none, none, some (.int l4)]) (st' := [.int l3, .ref l0]) bf127_41 bf127_42 rfl rfl).trans ?_
  exact bh bf127_42 bf127_45 rfl (bge_pf) rfl
theorem bk127_45 {w : am_Wd} {l0 : Nat} {l4 : Int32} : am_run 127 45 [some (.ref l0), none, none, none, some (.int l4)] [] w = if l4 = nI 0 then am_run 127 64 [some (.ref l0), none, none, none, none] [] w else am_run 127 50 [some (.ref l0), none, none, none, none] [] w := by
  refine (bu (ls'' := [some (.ref l0), none, none, none, none]) (st' := [.int l4]) bf127_45 bf127_47 rfl rfl).trans ?_
  exact bifc bf127_47 rfl bf127_64 bf127_50 rfl rfl rfl
theorem bk127_64 {w : am_Wd} {l0 : Nat} : am_run 127 64 [some (.ref l0), none, none, none, none] [] w = (am_gf w l0 6 2).bind fun v => am_run 127 68 [none, none, none, none, none] (v :: []) w := by
  refine (bu (ls'' := [none, none, none, none, none]) (st' := [.ref l0]) bf127_64 bf127_65 rfl rfl).trans ?_
  exact bh bf127_65 bf127_68 rfl (fun _ _ => am_ge_rf w) rfl
theorem bk127_50 {w : am_Wd} {l0 : Nat} : am_run 127 50 [some (.ref l0), none, none, none, none] [] w = (am_gf w l0 6 2).bind fun v => am_run 127 54 [some (.ref l0), none, none, none, none] (v :: []) w := by
  refine (bu (ls'' := [some (.ref l0), none, none, none, none]) (st' := [.ref l0]) bf127_50 bf127_51 rfl rfl).trans ?_
  exact bh bf127_51 bf127_54 rfl (fun _ _ => am_ge_rf w) rfl
theorem bk127_68 {w : am_Wd} {s0 : Nat} : am_run 127 68 [none, none, none, none, none] [.ref s0] w = (am_kf w s0 4).bind fun _ => (am_x 1 [.ref s0] w).bind fun r => bct r fun v w' => am_run 127 71 [none, none, none, none, none] (v.toList ++ []) w' := by
  exact bkV bf127_68 bf127_71 rfl (by decide +kernel) (Nat.le_of_ble_eq_true rfl) rfl (bhd rfl)
theorem bk127_54 {w : am_Wd} {l0 : Nat} {s0 : Nat} : am_run 127 54 [some (.ref l0), none, none, none, none] [.ref s0] w = (am_gf w l0 6 3).bind fun v => am_run 127 58 [none, none, none, none, none] (v :: [.ref s0]) w := by
  refine (bu (ls'' := [none, none, none, none, none]) (st' := [.ref l0, .ref s0]) bf127_54 bf127_55 rfl rfl).trans ?_
  exact bh bf127_55 bf127_58 rfl (fun _ _ => am_ge_rf w) rfl
theorem bk127_71 {w : am_Wd}  : am_run 127 71 [none, none, none, none, none] [] w = some (.inl none, w) := by
  exact am_e2 bf127_71 rfl (am_ge_rf w)
theorem bk127_58 {w : am_Wd} {s0 : Int32} {s1 : Nat} : am_run 127 58 [none, none, none, none, none] [.int s0, .ref s1] w = (am_kf w s1 4).bind fun _ => (am_x 2 [.ref s1, .int s0] w).bind fun r => bct r fun v w' => am_run 127 61 [none, none, none, none, none] (v.toList ++ []) w' := by
  exact bkV bf127_58 bf127_61 rfl (by decide +kernel) (Nat.le_of_ble_eq_true rfl) rfl (bhd rfl)
theorem bk127_61 {w : am_Wd}  : am_run 127 61 [none, none, none, none, none] [] w = am_run 127 71 [none, none, none, none, none] [] w := by
  refine (bu (ls'' := [none, none, none, none, none]) (st' := []) bf127_61 bf127_71 rfl rfl).trans ?_
  rfl
theorem bf128_0 : am_fetch (am_mth 128) 0 = some (.aload_n 0, 1, [], []) := by decide +kernel
theorem bf128_1 : am_fetch (am_mth 128) 1 = some (.getfield 21, 3, [0, 6, 2, 614], [0]) := by decide +kernel
theorem bf128_4 : am_fetch (am_mth 128) 4 = some (.invokevirtual 42, 3, [0, 72, 0, 4, 151, 152, 153, 65], [0]) := by decide +kernel
theorem bf128_7 : am_fetch (am_mth 128) 7 = some (.iconst 1, 1, [], [0]) := by decide +kernel
theorem bf128_8 : am_fetch (am_mth 128) 8 = some (.if_icmp .ne 7, 3, [], [0]) := by decide +kernel
theorem bf128_11 : am_fetch (am_mth 128) 11 = some (.iconst 1, 1, [], [0]) := by decide +kernel
theorem bf128_12 : am_fetch (am_mth 128) 12 = some (.goto 4, 3, [], [0]) := by decide +kernel
theorem bf128_15 : am_fetch (am_mth 128) 15 = some (.iconst 0, 1, [], [0]) := by decide +kernel
theorem bf128_16 : am_fetch (am_mth 128) 16 = some (.ireturn, 1, [1], [0]) := by decide +kernel
theorem bk128_0 {w : am_Wd} {l0 : Nat} : am_run 128 0 [some (.ref l0)] [] w = (am_gf w l0 6 2).bind fun v => am_run 128 4 [none] (v :: []) w := by
  refine (bu (ls'' := [none]) (st' := [.ref l0]) bf128_0 bf128_1 rfl rfl).trans ?_
  exact bh bf128_1 bf128_4 rfl (fun _ _ => am_ge_rf w) rfl
theorem bk128_4 {w : am_Wd} {s0 : Nat} : am_run 128 4 [none] [.ref s0] w = (am_kf w s0 4).bind fun _ => (am_x 72 [.ref s0] w).bind fun r => bct r fun v w' => am_run 128 7 [none] (v.toList ++ []) w' := by
  exact bkV bf128_4 bf128_7 rfl (by decide +kernel) (Nat.le_of_ble_eq_true rfl) rfl (bhd rfl)
theorem bk128_7 {w : am_Wd} {s0 : Int32} : am_run 128 7 [none] [.int s0] w = if ¬ s0 = (nI 1) then am_run 128 15 [none] [] w else am_run 128 11 [none] [] w := by
  refine (bu (ls'' := [none]) (st' := [.int (nI 1), .int s0]) bf128_7 bf128_8 rfl rfl).trans ?_
  exact bic bf128_8 rfl bf128_15 bf128_11 rfl rfl rfl
theorem bk128_15 {w : am_Wd}  : am_run 128 15 [none] [] w = am_run 128 16 [none] [.int (nI 0)] w := by
  refine (bu (ls'' := [none]) (st' := [.int (nI 0)]) bf128_15 bf128_16 rfl rfl).trans ?_
  rfl
theorem bk128_11 {w : am_Wd}  : am_run 128 11 [none] [] w = am_run 128 16 [none] [.int (nI 1)] w := by
  refine (bu (ls'' := [none]) (st' := [.int (nI 1)]) bf128_11 bf128_12 rfl rfl).trans ?_
  refine (bu (ls'' := [none]) (st' := [.int (nI 1)]) bf128_12 bf128_16 rfl rfl).trans ?_
  rfl
theorem bk128_16 {w : am_Wd} {s0 : Int32} (hb : am_ok (am_rt 1) (.int s0) = true) : am_run 128 16 [none] [.int s0] w = some (.inl (some (.int s0)), w) := by
  exact am_e2 bf128_16 (by unfold am_stp; exact if_pos ⟨by decide, hb⟩) (am_ge_rf w)
theorem bf129_0 : am_fetch (am_mth 129) 0 = some (.aload_n 0, 1, [], []) := by decide +kernel
theorem bf129_1 : am_fetch (am_mth 129) 1 = some (.getfield 21, 3, [0, 6, 2, 614], []) := by decide +kernel
theorem bf129_4 : am_fetch (am_mth 129) 4 = some (.invokevirtual 42, 3, [0, 72, 0, 4, 151, 152, 153, 65], []) := by decide +kernel
theorem bf129_7 : am_fetch (am_mth 129) 7 = some (.ifCond .ne 20, 3, [], []) := by decide +kernel
theorem bf129_10 : am_fetch (am_mth 129) 10 = some (.aload_n 0, 1, [], []) := by decide +kernel
theorem bf129_11 : am_fetch (am_mth 129) 11 = some (.getfield 21, 3, [0, 6, 2, 614], []) := by decide +kernel
theorem bf129_14 : am_fetch (am_mth 129) 14 = some (.invokevirtual 39, 3, [0, 1, 0, 4, 605, 606, 607, 65], []) := by decide +kernel
theorem bf129_17 : am_fetch (am_mth 129) 17 = some (.aload_n 0, 1, [], []) := by decide +kernel
theorem bf129_18 : am_fetch (am_mth 129) 18 = some (.dup, 1, [], [0]) := by decide +kernel
theorem bf129_19 : am_fetch (am_mth 129) 19 = some (.getfield 85, 3, [0, 6, 5, 620], [0]) := by decide +kernel
theorem bf129_22 : am_fetch (am_mth 129) 22 = some (.iconst 1, 1, [], [0]) := by decide +kernel
theorem bf129_23 : am_fetch (am_mth 129) 23 = some (.iadd, 1, [], [0]) := by decide +kernel
theorem bf129_24 : am_fetch (am_mth 129) 24 = some (.putfield 85, 3, [0, 6, 5, 620], [0]) := by decide +kernel
theorem bf129_27 : am_fetch (am_mth 129) 27 = some (.return_, 1, [], [0]) := by decide +kernel
theorem bk129_0 {w : am_Wd} {l0 : Nat} : am_run 129 0 [some (.ref l0)] [] w = (am_gf w l0 6 2).bind fun v => am_run 129 4 [some (.ref l0)] (v :: []) w := by
  refine (bu (ls'' := [some (.ref l0)]) (st' := [.ref l0]) bf129_0 bf129_1 rfl rfl).trans ?_
  exact bh bf129_1 bf129_4 rfl (fun _ _ => am_ge_rf w) rfl
theorem bk129_4 {w : am_Wd} {l0 : Nat} {s0 : Nat} : am_run 129 4 [some (.ref l0)] [.ref s0] w = (am_kf w s0 4).bind fun _ => (am_x 72 [.ref s0] w).bind fun r => bct r fun v w' => am_run 129 7 [some (.ref l0)] (v.toList ++ []) w' := by
  exact bkV bf129_4 bf129_7 rfl (by decide +kernel) (Nat.le_of_ble_eq_true rfl) rfl (bhd rfl)
theorem bk129_7 {w : am_Wd} {l0 : Nat} {s0 : Int32} : am_run 129 7 [some (.ref l0)] [.int s0] w = if ¬ s0 = nI 0 then am_run 129 27 [none] [] w else am_run 129 10 [some (.ref l0)] [] w := by
  exact bifc bf129_7 rfl bf129_27 bf129_10 rfl rfl rfl
theorem bk129_27 {w : am_Wd}  : am_run 129 27 [none] [] w = some (.inl none, w) := by
  exact am_e2 bf129_27 rfl (am_ge_rf w)
theorem bk129_10 {w : am_Wd} {l0 : Nat} : am_run 129 10 [some (.ref l0)] [] w = (am_gf w l0 6 2).bind fun v => am_run 129 14 [some (.ref l0)] (v :: []) w := by
  refine (bu (ls'' := [some (.ref l0)]) (st' := [.ref l0]) bf129_10 bf129_11 rfl rfl).trans ?_
  exact bh bf129_11 bf129_14 rfl (fun _ _ => am_ge_rf w) rfl
theorem bk129_14 {w : am_Wd} {l0 : Nat} {s0 : Nat} : am_run 129 14 [some (.ref l0)] [.ref s0] w = (am_kf w s0 4).bind fun _ => (am_x 1 [.ref s0] w).bind fun r => bct r fun v w' => am_run 129 17 [some (.ref l0)] (v.toList ++ []) w' := by
  exact bkV bf129_14 bf129_17 rfl (by decide +kernel) (Nat.le_of_ble_eq_true rfl) rfl (bhd rfl)
theorem bk129_17 {w : am_Wd} {l0 : Nat} : am_run 129 17 [some (.ref l0)] [] w = (am_gf w l0 6 5).bind fun v => am_run 129 22 [none] (v :: [.ref l0]) w := by
  refine (bu (ls'' := [none]) (st' := [.ref l0]) bf129_17 bf129_18 rfl rfl).trans ?_
  refine (bu (ls'' := [none]) (st' := [.ref l0, .ref l0]) bf129_18 bf129_19 rfl rfl).trans ?_
  exact bh bf129_19 bf129_22 rfl (fun _ _ => am_ge_rf w) rfl
theorem bk129_22 {w : am_Wd} {s0 : Int32} {s1 : Nat} : am_run 129 22 [none] [.int s0, .ref s1] w = (am_pf w s1 6 5 (.int (s0 + (nI 1)))).bind fun w' => am_run 129 27 [none] [] w' := by
  refine (bu (ls'' := [none]) (st' := [.int (nI 1), .int s0, .ref s1]) bf129_22 bf129_23 rfl rfl).trans ?_
  refine (bu (ls'' := [none]) (st' := [.int (s0 + (nI 1)), .ref s1]) bf129_23 bf129_24 rfl rfl).trans ?_
  exact bh bf129_24 bf129_27 rfl (bge_pf) rfl
theorem bf130_0 : am_fetch (am_mth 130) 0 = some (.aload_n 0, 1, [], [1]) := by decide +kernel
theorem bf130_1 : am_fetch (am_mth 130) 1 = some (.getfield 21, 3, [0, 6, 2, 614], [1]) := by decide +kernel
theorem bf130_4 : am_fetch (am_mth 130) 4 = some (.invokevirtual 42, 3, [0, 72, 0, 4, 151, 152, 153, 65], [1]) := by decide +kernel
theorem bf130_7 : am_fetch (am_mth 130) 7 = some (.istore_n 1, 1, [], [1]) := by decide +kernel
theorem bf130_8 : am_fetch (am_mth 130) 8 = some (.iload_n 1, 1, [], []) := by decide +kernel
theorem bf130_9 : am_fetch (am_mth 130) 9 = some (.iconst 1, 1, [], []) := by decide +kernel
theorem bf130_10 : am_fetch (am_mth 130) 10 = some (.if_icmp .lt 64, 3, [], []) := by decide +kernel
theorem bf130_13 : am_fetch (am_mth 130) 13 = some (.iload_n 1, 1, [], []) := by decide +kernel
theorem bf130_14 : am_fetch (am_mth 130) 14 = some (.sipush 144, 3, [], [1]) := by decide +kernel
theorem bf130_17 : am_fetch (am_mth 130) 17 = some (.if_icmp .gt 57, 3, [], [1]) := by decide +kernel
theorem bf130_20 : am_fetch (am_mth 130) 20 = some (.aload_n 0, 1, [], [1]) := by decide +kernel
theorem bf130_21 : am_fetch (am_mth 130) 21 = some (.getfield 32, 3, [0, 6, 4, 618], [1]) := by decide +kernel
theorem bf130_24 : am_fetch (am_mth 130) 24 = some (.ifCond .lt 50, 3, [], [1]) := by decide +kernel
theorem bf130_27 : am_fetch (am_mth 130) 27 = some (.aload_n 0, 1, [], [1]) := by decide +kernel
theorem bf130_28 : am_fetch (am_mth 130) 28 = some (.getfield 32, 3, [0, 6, 4, 618], [1]) := by decide +kernel
theorem bf130_31 : am_fetch (am_mth 130) 31 = some (.sipush 500, 3, [], [1]) := by decide +kernel
theorem bf130_34 : am_fetch (am_mth 130) 34 = some (.if_icmp .gt 40, 3, [], [1]) := by decide +kernel
theorem bf130_37 : am_fetch (am_mth 130) 37 = some (.aload_n 0, 1, [], [1]) := by decide +kernel
theorem bf130_38 : am_fetch (am_mth 130) 38 = some (.getfield 29, 3, [0, 6, 3, 616], [1]) := by decide +kernel
theorem bf130_41 : am_fetch (am_mth 130) 41 = some (.ifCond .lt 33, 3, [], [1]) := by decide +kernel
theorem bf130_44 : am_fetch (am_mth 130) 44 = some (.aload_n 0, 1, [], [1]) := by decide +kernel
theorem bf130_45 : am_fetch (am_mth 130) 45 = some (.getfield 29, 3, [0, 6, 3, 616], [1]) := by decide +kernel
theorem bf130_48 : am_fetch (am_mth 130) 48 = some (.sipush 144, 3, [], [1]) := by decide +kernel
theorem bf130_51 : am_fetch (am_mth 130) 51 = some (.if_icmp .ge 23, 3, [], [1]) := by decide +kernel
theorem bf130_54 : am_fetch (am_mth 130) 54 = some (.aload_n 0, 1, [], [1]) := by decide +kernel
theorem bf130_55 : am_fetch (am_mth 130) 55 = some (.getfield 128, 3, [0, 6, 6, 621], [1]) := by decide +kernel
theorem bf130_58 : am_fetch (am_mth 130) 58 = some (.aload_n 0, 1, [], [1]) := by decide +kernel
theorem bf130_59 : am_fetch (am_mth 130) 59 = some (.getfield 131, 3, [0, 6, 7, 624], [1]) := by decide +kernel
theorem bf130_62 : am_fetch (am_mth 130) 62 = some (.aload_n 0, 1, [], [1]) := by decide +kernel
theorem bf130_63 : am_fetch (am_mth 130) 63 = some (.getfield 134, 3, [0, 6, 8, 625], [0, 1]) := by decide +kernel
theorem bf130_66 : am_fetch (am_mth 130) 66 = some (.iadd, 1, [], [0, 1]) := by decide +kernel
theorem bf130_67 : am_fetch (am_mth 130) 67 = some (.if_icmp .lt 7, 3, [], [0, 1]) := by decide +kernel
theorem bf130_70 : am_fetch (am_mth 130) 70 = some (.iconst 1, 1, [], [0, 1]) := by decide +kernel
theorem bf130_71 : am_fetch (am_mth 130) 71 = some (.goto 4, 3, [], [0, 1]) := by decide +kernel
theorem bf130_74 : am_fetch (am_mth 130) 74 = some (.iconst 0, 1, [], [0, 1]) := by decide +kernel
theorem bf130_75 : am_fetch (am_mth 130) 75 = some (.ireturn, 1, [1], [0, 1]) := by decide +kernel
theorem bk130_0 {w : am_Wd} {l0 : Nat} : am_run 130 0 [some (.ref l0), none] [] w = (am_gf w l0 6 2).bind fun v => am_run 130 4 [some (.ref l0), none] (v :: []) w := by
  refine (bu (ls'' := [some (.ref l0), none]) (st' := [.ref l0]) bf130_0 bf130_1 rfl rfl).trans ?_
  exact bh bf130_1 bf130_4 rfl (fun _ _ => am_ge_rf w) rfl
theorem bk130_4 {w : am_Wd} {l0 : Nat} {s0 : Nat} : am_run 130 4 [some (.ref l0), none] [.ref s0] w = (am_kf w s0 4).bind fun _ => (am_x 72 [.ref s0] w).bind fun r => bct r fun v w' => am_run 130 7 [some (.ref l0), none] (v.toList ++ []) w' := by
  exact bkV bf130_4 bf130_7 rfl (by decide +kernel) (Nat.le_of_ble_eq_true rfl) rfl (bhd rfl)
theorem bk130_7 {w : am_Wd} {l0 : Nat} {s0 : Int32} : am_run 130 7 [some (.ref l0), none] [.int s0] w = if s0 < (nI 1) then am_run 130 74 [none, none] [] w else am_run 130 13 [some (.ref l0), some (.int s0)] [] w := by
  refine (bu (ls'' := [some (.ref l0), some (.int s0)]) (st' := []) bf130_7 bf130_8 rfl rfl).trans ?_
  refine (bu (ls'' := [some (.ref l0), some (.int s0)]) (st' := [.int s0]) bf130_8 bf130_9 rfl rfl).trans ?_
  refine (bu (ls'' := [some (.ref l0), some (.int s0)]) (st' := [.int (nI 1), .int s0]) bf130_9 bf130_10 rfl rfl).trans ?_
  exact bic bf130_10 rfl bf130_74 bf130_13 rfl rfl rfl
theorem bk130_74 {w : am_Wd}  : am_run 130 74 [none, none] [] w = am_run 130 75 [none, none] [.int (nI 0)] w := by
  refine (bu (ls'' := [none, none]) (st' := [.int (nI 0)]) bf130_74 bf130_75 rfl rfl).trans ?_
  rfl
theorem bk130_13 {w : am_Wd} {l0 : Nat} {l1 : Int32} : am_run 130 13 [some (.ref l0), some (.int l1)] [] w = if (nI 144) < l1 then am_run 130 74 [none, none] [] w else am_run 130 20 [some (.ref l0), none] [] w := by
  refine (bu (ls'' := [some (.ref l0), none]) (st' := [.int l1]) bf130_13 bf130_14 rfl rfl).trans ?_
  refine (bu (ls'' := [some (.ref l0), none]) (st' := [.int (nI 144), .int l1]) bf130_14 bf130_17 rfl rfl).trans ?_
  exact bic bf130_17 rfl bf130_74 bf130_20 rfl rfl rfl
theorem bk130_75 {w : am_Wd} {s0 : Int32} (hb : am_ok (am_rt 1) (.int s0) = true) : am_run 130 75 [none, none] [.int s0] w = some (.inl (some (.int s0)), w) := by
  exact am_e2 bf130_75 (by unfold am_stp; exact if_pos ⟨by decide, hb⟩) (am_ge_rf w)
theorem bk130_20 {w : am_Wd} {l0 : Nat} : am_run 130 20 [some (.ref l0), none] [] w = (am_gf w l0 6 4).bind fun v => am_run 130 24 [some (.ref l0), none] (v :: []) w := by
  refine (bu (ls'' := [some (.ref l0), none]) (st' := [.ref l0]) bf130_20 bf130_21 rfl rfl).trans ?_
  exact bh bf130_21 bf130_24 rfl (fun _ _ => am_ge_rf w) rfl
theorem bk130_24 {w : am_Wd} {l0 : Nat} {s0 : Int32} : am_run 130 24 [some (.ref l0), none] [.int s0] w = if s0 < nI 0 then am_run 130 74 [none, none] [] w else am_run 130 27 [some (.ref l0), none] [] w := by
  exact bifc bf130_24 rfl bf130_74 bf130_27 rfl rfl rfl
theorem bk130_27 {w : am_Wd} {l0 : Nat} : am_run 130 27 [some (.ref l0), none] [] w = (am_gf w l0 6 4).bind fun v => am_run 130 31 [some (.ref l0), none] (v :: []) w := by
  refine (bu (ls'' := [some (.ref l0), none]) (st' := [.ref l0]) bf130_27 bf130_28 rfl rfl).trans ?_
  exact bh bf130_28 bf130_31 rfl (fun _ _ => am_ge_rf w) rfl
theorem bk130_31 {w : am_Wd} {l0 : Nat} {s0 : Int32} : am_run 130 31 [some (.ref l0), none] [.int s0] w = if (nI 500) < s0 then am_run 130 74 [none, none] [] w else am_run 130 37 [some (.ref l0), none] [] w := by
  refine (bu (ls'' := [some (.ref l0), none]) (st' := [.int (nI 500), .int s0]) bf130_31 bf130_34 rfl rfl).trans ?_
  exact bic bf130_34 rfl bf130_74 bf130_37 rfl rfl rfl
theorem bk130_37 {w : am_Wd} {l0 : Nat} : am_run 130 37 [some (.ref l0), none] [] w = (am_gf w l0 6 3).bind fun v => am_run 130 41 [some (.ref l0), none] (v :: []) w := by
  refine (bu (ls'' := [some (.ref l0), none]) (st' := [.ref l0]) bf130_37 bf130_38 rfl rfl).trans ?_
  exact bh bf130_38 bf130_41 rfl (fun _ _ => am_ge_rf w) rfl
theorem bk130_41 {w : am_Wd} {l0 : Nat} {s0 : Int32} : am_run 130 41 [some (.ref l0), none] [.int s0] w = if s0 < nI 0 then am_run 130 74 [none, none] [] w else am_run 130 44 [some (.ref l0), none] [] w := by
  exact bifc bf130_41 rfl bf130_74 bf130_44 rfl rfl rfl
theorem bk130_44 {w : am_Wd} {l0 : Nat} : am_run 130 44 [some (.ref l0), none] [] w = (am_gf w l0 6 3).bind fun v => am_run 130 48 [some (.ref l0), none] (v :: []) w := by
  refine (bu (ls'' := [some (.ref l0), none]) (st' := [.ref l0]) bf130_44 bf130_45 rfl rfl).trans ?_
  exact bh bf130_45 bf130_48 rfl (fun _ _ => am_ge_rf w) rfl
theorem bk130_48 {w : am_Wd} {l0 : Nat} {s0 : Int32} : am_run 130 48 [some (.ref l0), none] [.int s0] w = if (nI 144) ≤ s0 then am_run 130 74 [none, none] [] w else am_run 130 54 [some (.ref l0), none] [] w := by
  refine (bu (ls'' := [some (.ref l0), none]) (st' := [.int (nI 144), .int s0]) bf130_48 bf130_51 rfl rfl).trans ?_
  exact bic bf130_51 rfl bf130_74 bf130_54 rfl rfl rfl
theorem bk130_54 {w : am_Wd} {l0 : Nat} : am_run 130 54 [some (.ref l0), none] [] w = (am_gf w l0 6 6).bind fun v => am_run 130 58 [some (.ref l0), none] (v :: []) w := by
  refine (bu (ls'' := [some (.ref l0), none]) (st' := [.ref l0]) bf130_54 bf130_55 rfl rfl).trans ?_
  exact bh bf130_55 bf130_58 rfl (fun _ _ => am_ge_rf w) rfl
theorem bk130_58 {w : am_Wd} {l0 : Nat} {s0 : Int32} : am_run 130 58 [some (.ref l0), none] [.int s0] w = (am_gf w l0 6 7).bind fun v => am_run 130 62 [some (.ref l0), none] (v :: [.int s0]) w := by
  refine (bu (ls'' := [some (.ref l0), none]) (st' := [.ref l0, .int s0]) bf130_58 bf130_59 rfl rfl).trans ?_
  exact bh bf130_59 bf130_62 rfl (fun _ _ => am_ge_rf w) rfl
theorem bk130_62 {w : am_Wd} {l0 : Nat} {s0 : Int32} {s1 : Int32} : am_run 130 62 [some (.ref l0), none] [.int s0, .int s1] w = (am_gf w l0 6 8).bind fun v => am_run 130 66 [none, none] (v :: [.int s0, .int s1]) w := by
  refine (bu (ls'' := [none, none]) (st' := [.ref l0, .int s0, .int s1]) bf130_62 bf130_63 rfl rfl).trans ?_
  exact bh bf130_63 bf130_66 rfl (fun _ _ => am_ge_rf w) rfl
theorem bk130_66 {w : am_Wd} {s0 : Int32} {s1 : Int32} {s2 : Int32} : am_run 130 66 [none, none] [.int s0, .int s1, .int s2] w = if s2 < (s1 + s0) then am_run 130 74 [none, none] [] w else am_run 130 70 [none, none] [] w := by
  refine (bu (ls'' := [none, none]) (st' := [.int (s1 + s0), .int s2]) bf130_66 bf130_67 rfl rfl).trans ?_
  exact bic bf130_67 rfl bf130_74 bf130_70 rfl rfl rfl
theorem bk130_70 {w : am_Wd}  : am_run 130 70 [none, none] [] w = am_run 130 75 [none, none] [.int (nI 1)] w := by
  refine (bu (ls'' := [none, none]) (st' := [.int (nI 1)]) bf130_70 bf130_71 rfl rfl).trans ?_
  refine (bu (ls'' := [none, none]) (st' := [.int (nI 1)]) bf130_71 bf130_75 rfl rfl).trans ?_
  rfl
theorem bf131_0 : am_fetch (am_mth 131) 0 = some (.aload_n 0, 1, [], [2, 3, 4, 5]) := by decide +kernel
theorem bf131_1 : am_fetch (am_mth 131) 1 = some (.invokevirtual 50, 3, [0, 85, 0, 7, 803, 805, 16, 64], [2, 3, 4, 5]) := by decide +kernel
theorem bf131_4 : am_fetch (am_mth 131) 4 = some (.istore_n 2, 1, [], [2, 3, 4, 5]) := by decide +kernel
theorem bf131_5 : am_fetch (am_mth 131) 5 = some (.iconst 0, 1, [], [3, 4, 5]) := by decide +kernel
theorem bf131_6 : am_fetch (am_mth 131) 6 = some (.istore_n 3, 1, [], [3, 4, 5]) := by decide +kernel
theorem bf131_7 : am_fetch (am_mth 131) 7 = some (.iload_n 3, 1, [], [4, 5]) := by decide +kernel
theorem bf131_8 : am_fetch (am_mth 131) 8 = some (.iconst 4, 1, [], [4, 5]) := by decide +kernel
theorem bf131_9 : am_fetch (am_mth 131) 9 = some (.if_icmp .ge 52, 3, [], [4, 5]) := by decide +kernel
theorem bf131_12 : am_fetch (am_mth 131) 12 = some (.aload_n 0, 1, [], [4, 5]) := by decide +kernel
theorem bf131_13 : am_fetch (am_mth 131) 13 = some (.iload_n 3, 1, [], [4, 5]) := by decide +kernel
theorem bf131_14 : am_fetch (am_mth 131) 14 = some (.invokevirtual 46, 3, [0, 22, 1, 7, 412, 414, 6, 64], [4, 5]) := by decide +kernel
theorem bf131_17 : am_fetch (am_mth 131) 17 = some (.lstore 4, 2, [], [4, 5]) := by decide +kernel
theorem bf131_19 : am_fetch (am_mth 131) 19 = some (.aload_n 0, 1, [], [5]) := by decide +kernel
theorem bf131_20 : am_fetch (am_mth 131) 20 = some (.getfield 9, 3, [0, 7, 0, 583], [5]) := by decide +kernel
theorem bf131_23 : am_fetch (am_mth 131) 23 = some (.iload_n 3, 1, [], [5]) := by decide +kernel
theorem bf131_24 : am_fetch (am_mth 131) 24 = some (.dup2, 1, [], [5]) := by decide +kernel
theorem bf131_25 : am_fetch (am_mth 131) 25 = some (.laload, 1, [], [5]) := by decide +kernel
theorem bf131_26 : am_fetch (am_mth 131) 26 = some (.lload 4, 2, [], [5]) := by decide +kernel
theorem bf131_28 : am_fetch (am_mth 131) 28 = some (.aload_n 1, 1, [], [5]) := by decide +kernel
theorem bf131_29 : am_fetch (am_mth 131) 29 = some (.getfield 9, 3, [0, 7, 0, 583], [5]) := by decide +kernel
theorem bf131_32 : am_fetch (am_mth 131) 32 = some (.iload_n 3, 1, [], [5]) := by decide +kernel
theorem bf131_33 : am_fetch (am_mth 131) 33 = some (.laload, 1, [], [5]) := by decide +kernel
theorem bf131_34 : am_fetch (am_mth 131) 34 = some (.land, 1, [], [5]) := by decide +kernel
theorem bf131_35 : am_fetch (am_mth 131) 35 = some (.lor, 1, [], [5]) := by decide +kernel
theorem bf131_36 : am_fetch (am_mth 131) 36 = some (.lastore, 1, [], [5]) := by decide +kernel
theorem bf131_37 : am_fetch (am_mth 131) 37 = some (.aload_n 0, 1, [], [5]) := by decide +kernel
theorem bf131_38 : am_fetch (am_mth 131) 38 = some (.getfield 21, 3, [0, 7, 1, 584], [5]) := by decide +kernel
theorem bf131_41 : am_fetch (am_mth 131) 41 = some (.iload_n 3, 1, [], [5]) := by decide +kernel
theorem bf131_42 : am_fetch (am_mth 131) 42 = some (.dup2, 1, [], [5]) := by decide +kernel
theorem bf131_43 : am_fetch (am_mth 131) 43 = some (.laload, 1, [], [5]) := by decide +kernel
theorem bf131_44 : am_fetch (am_mth 131) 44 = some (.lload 4, 2, [], [5]) := by decide +kernel
theorem bf131_46 : am_fetch (am_mth 131) 46 = some (.aload_n 1, 1, [], [4, 5]) := by decide +kernel
theorem bf131_47 : am_fetch (am_mth 131) 47 = some (.getfield 21, 3, [0, 7, 1, 584], [4, 5]) := by decide +kernel
theorem bf131_50 : am_fetch (am_mth 131) 50 = some (.iload_n 3, 1, [], [4, 5]) := by decide +kernel
theorem bf131_51 : am_fetch (am_mth 131) 51 = some (.laload, 1, [], [4, 5]) := by decide +kernel
theorem bf131_52 : am_fetch (am_mth 131) 52 = some (.land, 1, [], [4, 5]) := by decide +kernel
theorem bf131_53 : am_fetch (am_mth 131) 53 = some (.lor, 1, [], [4, 5]) := by decide +kernel
theorem bf131_54 : am_fetch (am_mth 131) 54 = some (.lastore, 1, [], [4, 5]) := by decide +kernel
theorem bf131_55 : am_fetch (am_mth 131) 55 = some (.iinc 3 1, 3, [], [4, 5]) := by decide +kernel
theorem bf131_58 : am_fetch (am_mth 131) 58 = some (.goto (-51), 3, [], [4, 5]) := by decide +kernel
theorem bf131_61 : am_fetch (am_mth 131) 61 = some (.iload_n 2, 1, [], [1, 3, 4, 5]) := by decide +kernel
theorem bf131_62 : am_fetch (am_mth 131) 62 = some (.aload_n 0, 1, [], [1, 2, 3, 4, 5]) := by decide +kernel
theorem bf131_63 : am_fetch (am_mth 131) 63 = some (.invokevirtual 50, 3, [0, 85, 0, 7, 803, 805, 16, 64], [0, 1, 2, 3, 4, 5]) := by decide +kernel
theorem bf131_66 : am_fetch (am_mth 131) 66 = some (.isub, 1, [], [0, 1, 2, 3, 4, 5]) := by decide +kernel
theorem bf131_67 : am_fetch (am_mth 131) 67 = some (.ireturn, 1, [0], [0, 1, 2, 3, 4, 5]) := by decide +kernel
theorem bk131_0 {w : am_Wd} {l0 : Nat} {l1 : Nat} : am_run 131 0 [some (.ref l0), some (.ref l1), none, none, none, none] [] w = (am_kf w l0 7).bind fun _ => (am_x 85 [.ref l0] w).bind fun r => bct r fun v w' => am_run 131 4 [some (.ref l0), some (.ref l1), none, none, none, none] (v.toList ++ []) w' := by
  refine (bu (ls'' := [some (.ref l0), some (.ref l1), none, none, none, none]) (st' := [.ref l0]) bf131_0 bf131_1 rfl rfl).trans ?_
  exact bkV bf131_1 bf131_4 rfl (by decide +kernel) (Nat.le_of_ble_eq_true rfl) rfl (bhd rfl)
theorem bk131_4 {w : am_Wd} {l0 : Nat} {l1 : Nat} {s0 : Int32} : am_run 131 4 [some (.ref l0), some (.ref l1), none, none, none, none] [.int s0] w = am_run 131 7 [some (.ref l0), some (.ref l1), some (.int s0), some (.int (nI 0)), none, none] [] w := by
  refine (bu (ls'' := [some (.ref l0), some (.ref l1), some (.int s0), none, none, none]) (st' := []) bf131_4 bf131_5 rfl rfl).trans ?_
  refine (bu (ls'' := [some (.ref l0), some (.ref l1), some (.int s0), none, none, none]) (st' := [.int (nI 0)]) bf131_5 bf131_6 rfl rfl).trans ?_
  refine (bu (ls'' := [some (.ref l0), some (.ref l1), some (.int s0), some (.int (nI 0)), none, none]) (st' := []) bf131_6 bf131_7 rfl rfl).trans ?_
  rfl
theorem bk131_7 {w : am_Wd} {l0 : Nat} {l1 : Nat} {l2 : Int32} {l3 : Int32} : am_run 131 7 [some (.ref l0), some (.ref l1), some (.int l2), some (.int l3), none, none] [] w = if (nI 4) ≤ l3 then am_run 131 61 [some (.ref l0), none, some (.int l2), none, none, none] [] w else am_run 131 12 [some (.ref l0), some (.ref l1), some (.int l2), some (.int l3), none, none] [] w := by
  refine (bu (ls'' := [some (.ref l0), some (.ref l1), some (.int l2), some (.int l3), none, none]) (st' := [.int l3]) bf131_7 bf131_8 rfl rfl).trans ?_
  refine (bu (ls'' := [some (.ref l0), some (.ref l1), some (.int l2), some (.int l3), none, none]) (st' := [.int (nI 4), .int l3]) bf131_8 bf131_9 rfl rfl).trans ?_
  exact bic bf131_9 rfl bf131_61 bf131_12 rfl rfl rfl
theorem bk131_61 {w : am_Wd} {l0 : Nat} {l2 : Int32} : am_run 131 61 [some (.ref l0), none, some (.int l2), none, none, none] [] w = (am_kf w l0 7).bind fun _ => (am_x 85 [.ref l0] w).bind fun r => bct r fun v w' => am_run 131 66 [none, none, none, none, none, none] (v.toList ++ [.int l2]) w' := by
  refine (bu (ls'' := [some (.ref l0), none, none, none, none, none]) (st' := [.int l2]) bf131_61 bf131_62 rfl rfl).trans ?_
  refine (bu (ls'' := [none, none, none, none, none, none]) (st' := [.ref l0, .int l2]) bf131_62 bf131_63 rfl rfl).trans ?_
  exact bkV bf131_63 bf131_66 rfl (by decide +kernel) (Nat.le_of_ble_eq_true rfl) rfl (bhd rfl)
theorem bk131_12 {w : am_Wd} {l0 : Nat} {l1 : Nat} {l2 : Int32} {l3 : Int32} : am_run 131 12 [some (.ref l0), some (.ref l1), some (.int l2), some (.int l3), none, none] [] w = (am_kf w l0 7).bind fun _ => (am_x 22 [.ref l0, .int l3] w).bind fun r => bct r fun v w' => am_run 131 17 [some (.ref l0), some (.ref l1), some (.int l2), some (.int l3), none, none] (v.toList ++ []) w' := by
  refine (bu (ls'' := [some (.ref l0), some (.ref l1), some (.int l2), some (.int l3), none, none]) (st' := [.ref l0]) bf131_12 bf131_13 rfl rfl).trans ?_
  refine (bu (ls'' := [some (.ref l0), some (.ref l1), some (.int l2), some (.int l3), none, none]) (st' := [.int l3, .ref l0]) bf131_13 bf131_14 rfl rfl).trans ?_
  exact bkV bf131_14 bf131_17 rfl (by decide +kernel) (Nat.le_of_ble_eq_true rfl) rfl (bhd rfl)
theorem bk131_66 {w : am_Wd} {s0 : Int32} {s1 : Int32} : am_run 131 66 [none, none, none, none, none, none] [.int s0, .int s1] w = some (.inl (some (.int (s1 - s0))), w) := by
  refine (bu (ls'' := [none, none, none, none, none, none]) (st' := [.int (s1 - s0)]) bf131_66 bf131_67 rfl rfl).trans ?_
  exact am_e2 bf131_67 rfl (am_ge_rf w)
theorem bk131_17 {w : am_Wd} {l0 : Nat} {l1 : Nat} {l2 : Int32} {l3 : Int32} {s0 : Int64} : am_run 131 17 [some (.ref l0), some (.ref l1), some (.int l2), some (.int l3), none, none] [.long s0] w = (am_gf w l0 7 0).bind fun v => am_run 131 23 [some (.ref l0), some (.ref l1), some (.int l2), some (.int l3), some (.long s0), none] (v :: []) w := by
  refine (bu (ls'' := [some (.ref l0), some (.ref l1), some (.int l2), some (.int l3), some (.long s0), none]) (st' := []) bf131_17 bf131_19 rfl rfl).trans ?_
  refine (bu (ls'' := [some (.ref l0), some (.ref l1), some (.int l2), some (.int l3), some (.long s0), none]) (st' := [.ref l0]) bf131_19 bf131_20 rfl rfl).trans ?_
  exact bh bf131_20 bf131_23 rfl (fun _ _ => am_ge_rf w) rfl
theorem bk131_23 {w : am_Wd} {l0 : Nat} {l1 : Nat} {l2 : Int32} {l3 : Int32} {l4 : Int64} {s0 : Nat} : am_run 131 23 [some (.ref l0), some (.ref l1), some (.int l2), some (.int l3), some (.long l4), none] [.ref s0] w = (am_rl w s0 l3).bind fun v => am_run 131 26 [some (.ref l0), some (.ref l1), some (.int l2), some (.int l3), some (.long l4), none] (.long v :: [.int l3, .ref s0]) w := by
  refine (bu (ls'' := [some (.ref l0), some (.ref l1), some (.int l2), some (.int l3), some (.long l4), none]) (st' := [.int l3, .ref s0]) bf131_23 bf131_24 rfl rfl).trans ?_
  refine (bu (ls'' := [some (.ref l0), some (.ref l1), some (.int l2), some (.int l3), some (.long l4), none]) (st' := [.int l3, .ref s0, .int l3, .ref s0]) bf131_24 bf131_25 rfl rfl).trans ?_
  exact bh bf131_25 bf131_26 rfl (fun _ _ => am_ge_rf w) rfl
theorem bk131_26 {w : am_Wd} {l0 : Nat} {l1 : Nat} {l2 : Int32} {l3 : Int32} {l4 : Int64} {s0 : Int64} {s1 : Int32} {s2 : Nat} : am_run 131 26 [some (.ref l0), some (.ref l1), some (.int l2), some (.int l3), some (.long l4), none] [.long s0, .int s1, .ref s2] w = (am_gf w l1 7 0).bind fun v => am_run 131 32 [some (.ref l0), some (.ref l1), some (.int l2), some (.int l3), some (.long l4), none] (v :: [.long l4, .long s0, .int s1, .ref s2]) w := by
  refine (bu (ls'' := [some (.ref l0), some (.ref l1), some (.int l2), some (.int l3), some (.long l4), none]) (st' := [.long l4, .long s0, .int s1, .ref s2]) bf131_26 bf131_28 rfl rfl).trans ?_
  refine (bu (ls'' := [some (.ref l0), some (.ref l1), some (.int l2), some (.int l3), some (.long l4), none]) (st' := [.ref l1, .long l4, .long s0, .int s1, .ref s2]) bf131_28 bf131_29 rfl rfl).trans ?_
  exact bh bf131_29 bf131_32 rfl (fun _ _ => am_ge_rf w) rfl
theorem bk131_32 {w : am_Wd} {l0 : Nat} {l1 : Nat} {l2 : Int32} {l3 : Int32} {l4 : Int64} {s0 : Nat} {s1 : Int64} {s2 : Int64} {s3 : Int32} {s4 : Nat} : am_run 131 32 [some (.ref l0), some (.ref l1), some (.int l2), some (.int l3), some (.long l4), none] [.ref s0, .long s1, .long s2, .int s3, .ref s4] w = (am_rl w s0 l3).bind fun v => am_run 131 34 [some (.ref l0), some (.ref l1), some (.int l2), some (.int l3), some (.long l4), none] (.long v :: [.long s1, .long s2, .int s3, .ref s4]) w := by
  refine (bu (ls'' := [some (.ref l0), some (.ref l1), some (.int l2), some (.int l3), some (.long l4), none]) (st' := [.int l3, .ref s0, .long s1, .long s2, .int s3, .ref s4]) bf131_32 bf131_33 rfl rfl).trans ?_
  exact bh bf131_33 bf131_34 rfl (fun _ _ => am_ge_rf w) rfl
theorem bk131_34 {w : am_Wd} {l0 : Nat} {l1 : Nat} {l2 : Int32} {l3 : Int32} {l4 : Int64} {s0 : Int64} {s1 : Int64} {s2 : Int64} {s3 : Int32} {s4 : Nat} : am_run 131 34 [some (.ref l0), some (.ref l1), some (.int l2), some (.int l3), some (.long l4), none] [.long s0, .long s1, .long s2, .int s3, .ref s4] w = (am_wl w s4 s3 (s2 ||| (s1 &&& s0))).bind fun w' => am_run 131 37 [some (.ref l0), some (.ref l1), some (.int l2), some (.int l3), some (.long l4), none] [] w' := by
  refine (bu (ls'' := [some (.ref l0), some (.ref l1), some (.int l2), some (.int l3), some (.long l4), none]) (st' := [.long (s1 &&& s0), .long s2, .int s3, .ref s4]) bf131_34 bf131_35 rfl rfl).trans ?_
  refine (bu (ls'' := [some (.ref l0), some (.ref l1), some (.int l2), some (.int l3), some (.long l4), none]) (st' := [.long (s2 ||| (s1 &&& s0)), .int s3, .ref s4]) bf131_35 bf131_36 rfl rfl).trans ?_
  exact bh bf131_36 bf131_37 rfl (bge_wl) rfl
theorem bk131_37 {w : am_Wd} {l0 : Nat} {l1 : Nat} {l2 : Int32} {l3 : Int32} {l4 : Int64} : am_run 131 37 [some (.ref l0), some (.ref l1), some (.int l2), some (.int l3), some (.long l4), none] [] w = (am_gf w l0 7 1).bind fun v => am_run 131 41 [some (.ref l0), some (.ref l1), some (.int l2), some (.int l3), some (.long l4), none] (v :: []) w := by
  refine (bu (ls'' := [some (.ref l0), some (.ref l1), some (.int l2), some (.int l3), some (.long l4), none]) (st' := [.ref l0]) bf131_37 bf131_38 rfl rfl).trans ?_
  exact bh bf131_38 bf131_41 rfl (fun _ _ => am_ge_rf w) rfl
theorem bk131_41 {w : am_Wd} {l0 : Nat} {l1 : Nat} {l2 : Int32} {l3 : Int32} {l4 : Int64} {s0 : Nat} : am_run 131 41 [some (.ref l0), some (.ref l1), some (.int l2), some (.int l3), some (.long l4), none] [.ref s0] w = (am_rl w s0 l3).bind fun v => am_run 131 44 [some (.ref l0), some (.ref l1), some (.int l2), some (.int l3), some (.long l4), none] (.long v :: [.int l3, .ref s0]) w := by
  refine (bu (ls'' := [some (.ref l0), some (.ref l1), some (.int l2), some (.int l3), some (.long l4), none]) (st' := [.int l3, .ref s0]) bf131_41 bf131_42 rfl rfl).trans ?_
  refine (bu (ls'' := [some (.ref l0), some (.ref l1), some (.int l2), some (.int l3), some (.long l4), none]) (st' := [.int l3, .ref s0, .int l3, .ref s0]) bf131_42 bf131_43 rfl rfl).trans ?_
  exact bh bf131_43 bf131_44 rfl (fun _ _ => am_ge_rf w) rfl
theorem bk131_44 {w : am_Wd} {l0 : Nat} {l1 : Nat} {l2 : Int32} {l3 : Int32} {l4 : Int64} {s0 : Int64} {s1 : Int32} {s2 : Nat} : am_run 131 44 [some (.ref l0), some (.ref l1), some (.int l2), some (.int l3), some (.long l4), none] [.long s0, .int s1, .ref s2] w = (am_gf w l1 7 1).bind fun v => am_run 131 50 [some (.ref l0), some (.ref l1), some (.int l2), some (.int l3), none, none] (v :: [.long l4, .long s0, .int s1, .ref s2]) w := by
  refine (bu (ls'' := [some (.ref l0), some (.ref l1), some (.int l2), some (.int l3), none, none]) (st' := [.long l4, .long s0, .int s1, .ref s2]) bf131_44 bf131_46 rfl rfl).trans ?_
  refine (bu (ls'' := [some (.ref l0), some (.ref l1), some (.int l2), some (.int l3), none, none]) (st' := [.ref l1, .long l4, .long s0, .int s1, .ref s2]) bf131_46 bf131_47 rfl rfl).trans ?_
  exact bh bf131_47 bf131_50 rfl (fun _ _ => am_ge_rf w) rfl
theorem bk131_50 {w : am_Wd} {l0 : Nat} {l1 : Nat} {l2 : Int32} {l3 : Int32} {s0 : Nat} {s1 : Int64} {s2 : Int64} {s3 : Int32} {s4 : Nat} : am_run 131 50 [some (.ref l0), some (.ref l1), some (.int l2), some (.int l3), none, none] [.ref s0, .long s1, .long s2, .int s3, .ref s4] w = (am_rl w s0 l3).bind fun v => am_run 131 52 [some (.ref l0), some (.ref l1), some (.int l2), some (.int l3), none, none] (.long v :: [.long s1, .long s2, .int s3, .ref s4]) w := by
  refine (bu (ls'' := [some (.ref l0), some (.ref l1), some (.int l2), some (.int l3), none, none]) (st' := [.int l3, .ref s0, .long s1, .long s2, .int s3, .ref s4]) bf131_50 bf131_51 rfl rfl).trans ?_
  exact bh bf131_51 bf131_52 rfl (fun _ _ => am_ge_rf w) rfl
theorem bk131_52 {w : am_Wd} {l0 : Nat} {l1 : Nat} {l2 : Int32} {l3 : Int32} {s0 : Int64} {s1 : Int64} {s2 : Int64} {s3 : Int32} {s4 : Nat} : am_run 131 52 [some (.ref l0), some (.ref l1), some (.int l2), some (.int l3), none, none] [.long s0, .long s1, .long s2, .int s3, .ref s4] w = (am_wl w s4 s3 (s2 ||| (s1 &&& s0))).bind fun w' => am_run 131 55 [some (.ref l0), some (.ref l1), some (.int l2), some (.int l3), none, none] [] w' := by
  refine (bu (ls'' := [some (.ref l0), some (.ref l1), some (.int l2), some (.int l3), none, none]) (st' := [.long (s1 &&& s0), .long s2, .int s3, .ref s4]) bf131_52 bf131_53 rfl rfl).trans ?_
  refine (bu (ls'' := [some (.ref l0), some (.ref l1), some (.int l2), some (.int l3), none, none]) (st' := [.long (s2 ||| (s1 &&& s0)), .int s3, .ref s4]) bf131_53 bf131_54 rfl rfl).trans ?_
  exact bh bf131_54 bf131_55 rfl (bge_wl) rfl
theorem bk131_55 {w : am_Wd} {l0 : Nat} {l1 : Nat} {l2 : Int32} {l3 : Int32} : am_run 131 55 [some (.ref l0), some (.ref l1), some (.int l2), some (.int l3), none, none] [] w = am_run 131 7 [some (.ref l0), some (.ref l1), some (.int l2), some (.int (l3 + (nI 1))), none, none] [] w := by
  refine (bu (ls'' := [some (.ref l0), some (.ref l1), some (.int l2), some (.int (l3 + (nI 1))), none, none]) (st' := []) bf131_55 bf131_58 rfl rfl).trans ?_
  refine (bu (ls'' := [some (.ref l0), some (.ref l1), some (.int l2), some (.int (l3 + (nI 1))), none, none]) (st' := []) bf131_58 bf131_7 rfl rfl).trans ?_
  rfl
theorem bf132_0 : am_fetch (am_mth 132) 0 = some (.lconst 0, 1, [], [2, 3, 4, 5, 6, 7]) := by decide +kernel
theorem bf132_1 : am_fetch (am_mth 132) 1 = some (.lstore_n 2, 1, [], [2, 3, 4, 5, 6, 7]) := by decide +kernel
theorem bf132_2 : am_fetch (am_mth 132) 2 = some (.iconst 0, 1, [], [3, 4, 5, 6, 7]) := by decide +kernel
theorem bf132_3 : am_fetch (am_mth 132) 3 = some (.istore 4, 2, [], [3, 4, 5, 6, 7]) := by decide +kernel
theorem bf132_5 : am_fetch (am_mth 132) 5 = some (.iload 4, 2, [], [3, 5, 6, 7]) := by decide +kernel
theorem bf132_7 : am_fetch (am_mth 132) 7 = some (.iconst 4, 1, [], [3, 5, 6, 7]) := by decide +kernel
theorem bf132_8 : am_fetch (am_mth 132) 8 = some (.if_icmp .ge 18, 3, [], [3, 5, 6, 7]) := by decide +kernel
theorem bf132_11 : am_fetch (am_mth 132) 11 = some (.lload_n 2, 1, [], [3, 5, 6, 7]) := by decide +kernel
theorem bf132_12 : am_fetch (am_mth 132) 12 = some (.aload_n 0, 1, [], [2, 3, 5, 6, 7]) := by decide +kernel
theorem bf132_13 : am_fetch (am_mth 132) 13 = some (.iload 4, 2, [], [2, 3, 5, 6, 7]) := by decide +kernel
theorem bf132_15 : am_fetch (am_mth 132) 15 = some (.invokevirtual 46, 3, [0, 22, 1, 7, 412, 414, 6, 64], [2, 3, 5, 6, 7]) := by decide +kernel
theorem bf132_18 : am_fetch (am_mth 132) 18 = some (.lor, 1, [], [2, 3, 5, 6, 7]) := by decide +kernel
theorem bf132_19 : am_fetch (am_mth 132) 19 = some (.lstore_n 2, 1, [], [2, 3, 5, 6, 7]) := by decide +kernel
theorem bf132_20 : am_fetch (am_mth 132) 20 = some (.iinc 4 1, 3, [], [3, 5, 6, 7]) := by decide +kernel
theorem bf132_23 : am_fetch (am_mth 132) 23 = some (.goto (-18), 3, [], [3, 5, 6, 7]) := by decide +kernel
theorem bf132_26 : am_fetch (am_mth 132) 26 = some (.lconst 1, 1, [], [3, 4, 5, 6, 7]) := by decide +kernel
theorem bf132_27 : am_fetch (am_mth 132) 27 = some (.iload_n 1, 1, [], [3, 4, 5, 6, 7]) := by decide +kernel
theorem bf132_28 : am_fetch (am_mth 132) 28 = some (.lshl, 1, [], [1, 3, 4, 5, 6, 7]) := by decide +kernel
theorem bf132_29 : am_fetch (am_mth 132) 29 = some (.lstore 4, 2, [], [1, 3, 4, 5, 6, 7]) := by decide +kernel
theorem bf132_31 : am_fetch (am_mth 132) 31 = some (.iconst 0, 1, [], [1, 3, 5, 6, 7]) := by decide +kernel
theorem bf132_32 : am_fetch (am_mth 132) 32 = some (.istore 6, 2, [], [1, 3, 5, 6, 7]) := by decide +kernel
theorem bf132_34 : am_fetch (am_mth 132) 34 = some (.iload 6, 2, [], [1, 3, 5, 7]) := by decide +kernel
theorem bf132_36 : am_fetch (am_mth 132) 36 = some (.bipush 36, 2, [], [1, 3, 5, 7]) := by decide +kernel
theorem bf132_38 : am_fetch (am_mth 132) 38 = some (.if_icmp .ge 35, 3, [], [1, 3, 5, 7]) := by decide +kernel
theorem bf132_41 : am_fetch (am_mth 132) 41 = some (.lload 4, 2, [], [1, 3, 5, 7]) := by decide +kernel
theorem bf132_43 : am_fetch (am_mth 132) 43 = some (.lload_n 2, 1, [], [1, 3, 5, 7]) := by decide +kernel
theorem bf132_44 : am_fetch (am_mth 132) 44 = some (.land, 1, [], [1, 3, 5, 7]) := by decide +kernel
theorem bf132_45 : am_fetch (am_mth 132) 45 = some (.invokestatic 58, 3, [0, 88, 1, 418, 419, 64], [1, 3, 5, 7]) := by decide +kernel
theorem bf132_48 : am_fetch (am_mth 132) 48 = some (.istore 7, 2, [], [1, 3, 5, 7]) := by decide +kernel
theorem bf132_50 : am_fetch (am_mth 132) 50 = some (.iload 7, 2, [], [1, 3, 5]) := by decide +kernel
theorem bf132_52 : am_fetch (am_mth 132) 52 = some (.iconst (-1), 1, [], [1, 3, 5]) := by decide +kernel
theorem bf132_53 : am_fetch (am_mth 132) 53 = some (.if_icmp .eq 6, 3, [], [1, 3, 5]) := by decide +kernel
theorem bf132_56 : am_fetch (am_mth 132) 56 = some (.iload 7, 2, [], [0, 1, 2, 3, 4, 5, 6]) := by decide +kernel
theorem bf132_58 : am_fetch (am_mth 132) 58 = some (.ireturn, 1, [0], [0, 1, 2, 3, 4, 5, 6, 7]) := by decide +kernel
theorem bf132_59 : am_fetch (am_mth 132) 59 = some (.aload_n 0, 1, [], [1, 3, 5, 7]) := by decide +kernel
theorem bf132_60 : am_fetch (am_mth 132) 60 = some (.lload 4, 2, [], [1, 3, 5, 7]) := by decide +kernel
theorem bf132_62 : am_fetch (am_mth 132) 62 = some (.invokevirtual 54, 3, [0, 23, 1, 7, 390, 392, 5, 64], [1, 3, 4, 5, 7]) := by decide +kernel
theorem bf132_65 : am_fetch (am_mth 132) 65 = some (.lstore 4, 2, [], [1, 3, 4, 5, 7]) := by decide +kernel
theorem bf132_67 : am_fetch (am_mth 132) 67 = some (.iinc 6 1, 3, [], [1, 3, 5, 7]) := by decide +kernel
theorem bf132_70 : am_fetch (am_mth 132) 70 = some (.goto (-36), 3, [], [1, 3, 5, 7]) := by decide +kernel
theorem bf132_73 : am_fetch (am_mth 132) 73 = some (.iconst (-1), 1, [], [0, 1, 2, 3, 4, 5, 6, 7]) := by decide +kernel
theorem bf132_74 : am_fetch (am_mth 132) 74 = some (.ireturn, 1, [0], [0, 1, 2, 3, 4, 5, 6, 7]) := by decide +kernel
theorem bk132_0 {w : am_Wd} {l0 : Nat} {l1 : Int32} : am_run 132 0 [some (.ref l0), some (.int l1), none, none, none, none, none, none] [] w = am_run 132 5 [some (.ref l0), some (.int l1), some (.long (lN 0)), none, some (.int (nI 0)), none, none, none] [] w := by
  refine (bu (ls'' := [some (.ref l0), some (.int l1), none, none, none, none, none, none]) (st' := [.long (lN 0)]) bf132_0 bf132_1 rfl rfl).trans ?_
  refine (bu (ls'' := [some (.ref l0), some (.int l1), some (.long (lN 0)), none, none, none, none, none]) (st' := []) bf132_1 bf132_2 rfl rfl).trans ?_
  refine (bu (ls'' := [some (.ref l0), some (.int l1), some (.long (lN 0)), none, none, none, none, none]) (st' := [.int (nI 0)]) bf132_2 bf132_3 rfl rfl).trans ?_
  refine (bu (ls'' := [some (.ref l0), some (.int l1), some (.long (lN 0)), none, some (.int (nI 0)), none, none, none]) (st' := []) bf132_3 bf132_5 rfl rfl).trans ?_
  rfl
theorem bk132_5 {w : am_Wd} {l0 : Nat} {l1 : Int32} {l2 : Int64} {l4 : Int32} : am_run 132 5 [some (.ref l0), some (.int l1), some (.long l2), none, some (.int l4), none, none, none] [] w = if (nI 4) ≤ l4 then am_run 132 26 [some (.ref l0), some (.int l1), some (.long l2), none, none, none, none, none] [] w else am_run 132 11 [some (.ref l0), some (.int l1), some (.long l2), none, some (.int l4), none, none, none] [] w := by
  refine (bu (ls'' := [some (.ref l0), some (.int l1), some (.long l2), none, some (.int l4), none, none, none]) (st' := [.int l4]) bf132_5 bf132_7 rfl rfl).trans ?_
  refine (bu (ls'' := [some (.ref l0), some (.int l1), some (.long l2), none, some (.int l4), none, none, none]) (st' := [.int (nI 4), .int l4]) bf132_7 bf132_8 rfl rfl).trans ?_
  exact bic bf132_8 rfl bf132_26 bf132_11 rfl rfl rfl
theorem bk132_26 {w : am_Wd} {l0 : Nat} {l1 : Int32} {l2 : Int64} : am_run 132 26 [some (.ref l0), some (.int l1), some (.long l2), none, none, none, none, none] [] w = am_run 132 34 [some (.ref l0), none, some (.long l2), none, some (.long (bj_lshl (lN 1) l1)), none, some (.int (nI 0)), none] [] w := by
  refine (bu (ls'' := [some (.ref l0), some (.int l1), some (.long l2), none, none, none, none, none]) (st' := [.long (lN 1)]) bf132_26 bf132_27 rfl rfl).trans ?_
  refine (bu (ls'' := [some (.ref l0), none, some (.long l2), none, none, none, none, none]) (st' := [.int l1, .long (lN 1)]) bf132_27 bf132_28 rfl rfl).trans ?_
  refine (bu (ls'' := [some (.ref l0), none, some (.long l2), none, none, none, none, none]) (st' := [.long (bj_lshl (lN 1) l1)]) bf132_28 bf132_29 rfl rfl).trans ?_
  refine (bu (ls'' := [some (.ref l0), none, some (.long l2), none, some (.long (bj_lshl (lN 1) l1)), none, none, none]) (st' := []) bf132_29 bf132_31 rfl rfl).trans ?_
  refine (bu (ls'' := [some (.ref l0), none, some (.long l2), none, some (.long (bj_lshl (lN 1) l1)), none, none, none]) (st' := [.int (nI 0)]) bf132_31 bf132_32 rfl rfl).trans ?_
  refine (bu (ls'' := [some (.ref l0), none, some (.long l2), none, some (.long (bj_lshl (lN 1) l1)), none, some (.int (nI 0)), none]) (st' := []) bf132_32 bf132_34 rfl rfl).trans ?_
  rfl
theorem bk132_11 {w : am_Wd} {l0 : Nat} {l1 : Int32} {l2 : Int64} {l4 : Int32} : am_run 132 11 [some (.ref l0), some (.int l1), some (.long l2), none, some (.int l4), none, none, none] [] w = (am_kf w l0 7).bind fun _ => (am_x 22 [.ref l0, .int l4] w).bind fun r => bct r fun v w' => am_run 132 18 [some (.ref l0), some (.int l1), none, none, some (.int l4), none, none, none] (v.toList ++ [.long l2]) w' := by
  refine (bu (ls'' := [some (.ref l0), some (.int l1), none, none, some (.int l4), none, none, none]) (st' := [.long l2]) bf132_11 bf132_12 rfl rfl).trans ?_
  refine (bu (ls'' := [some (.ref l0), some (.int l1), none, none, some (.int l4), none, none, none]) (st' := [.ref l0, .long l2]) bf132_12 bf132_13 rfl rfl).trans ?_
  refine (bu (ls'' := [some (.ref l0), some (.int l1), none, none, some (.int l4), none, none, none]) (st' := [.int l4, .ref l0, .long l2]) bf132_13 bf132_15 rfl rfl).trans ?_
  exact bkV bf132_15 bf132_18 rfl (by decide +kernel) (Nat.le_of_ble_eq_true rfl) rfl (bhd rfl)
theorem bk132_34 {w : am_Wd} {l0 : Nat} {l2 : Int64} {l4 : Int64} {l6 : Int32} : am_run 132 34 [some (.ref l0), none, some (.long l2), none, some (.long l4), none, some (.int l6), none] [] w = if (nI 36) ≤ l6 then am_run 132 73 [none, none, none, none, none, none, none, none] [] w else am_run 132 41 [some (.ref l0), none, some (.long l2), none, some (.long l4), none, some (.int l6), none] [] w := by
  refine (bu (ls'' := [some (.ref l0), none, some (.long l2), none, some (.long l4), none, some (.int l6), none]) (st' := [.int l6]) bf132_34 bf132_36 rfl rfl).trans ?_
  refine (bu (ls'' := [some (.ref l0), none, some (.long l2), none, some (.long l4), none, some (.int l6), none]) (st' := [.int (nI 36), .int l6]) bf132_36 bf132_38 rfl rfl).trans ?_
  exact bic bf132_38 rfl bf132_73 bf132_41 rfl rfl rfl
theorem bk132_18 {w : am_Wd} {l0 : Nat} {l1 : Int32} {l4 : Int32} {s0 : Int64} {s1 : Int64} : am_run 132 18 [some (.ref l0), some (.int l1), none, none, some (.int l4), none, none, none] [.long s0, .long s1] w = am_run 132 5 [some (.ref l0), some (.int l1), some (.long (s1 ||| s0)), none, some (.int (l4 + (nI 1))), none, none, none] [] w := by
  refine (bu (ls'' := [some (.ref l0), some (.int l1), none, none, some (.int l4), none, none, none]) (st' := [.long (s1 ||| s0)]) bf132_18 bf132_19 rfl rfl).trans ?_
  refine (bu (ls'' := [some (.ref l0), some (.int l1), some (.long (s1 ||| s0)), none, some (.int l4), none, none, none]) (st' := []) bf132_19 bf132_20 rfl rfl).trans ?_
  refine (bu (ls'' := [some (.ref l0), some (.int l1), some (.long (s1 ||| s0)), none, some (.int (l4 + (nI 1))), none, none, none]) (st' := []) bf132_20 bf132_23 rfl rfl).trans ?_
  refine (bu (ls'' := [some (.ref l0), some (.int l1), some (.long (s1 ||| s0)), none, some (.int (l4 + (nI 1))), none, none, none]) (st' := []) bf132_23 bf132_5 rfl rfl).trans ?_
  rfl
theorem bk132_73 {w : am_Wd}  : am_run 132 73 [none, none, none, none, none, none, none, none] [] w = some (.inl (some (.int (-1 : Int32))), w) := by
  refine (bu (ls'' := [none, none, none, none, none, none, none, none]) (st' := [.int (-1 : Int32)]) bf132_73 bf132_74 rfl rfl).trans ?_
  exact am_e2 bf132_74 rfl (am_ge_rf w)
theorem bk132_41 {w : am_Wd} {l0 : Nat} {l2 : Int64} {l4 : Int64} {l6 : Int32} : am_run 132 41 [some (.ref l0), none, some (.long l2), none, some (.long l4), none, some (.int l6), none] [] w = (am_x 88 [.long (l4 &&& l2)] w).bind fun r => bct r fun v w' => am_run 132 48 [some (.ref l0), none, some (.long l2), none, some (.long l4), none, some (.int l6), none] (v.toList ++ []) w' := by
  refine (bu (ls'' := [some (.ref l0), none, some (.long l2), none, some (.long l4), none, some (.int l6), none]) (st' := [.long l4]) bf132_41 bf132_43 rfl rfl).trans ?_
  refine (bu (ls'' := [some (.ref l0), none, some (.long l2), none, some (.long l4), none, some (.int l6), none]) (st' := [.long l2, .long l4]) bf132_43 bf132_44 rfl rfl).trans ?_
  refine (bu (ls'' := [some (.ref l0), none, some (.long l2), none, some (.long l4), none, some (.int l6), none]) (st' := [.long (l4 &&& l2)]) bf132_44 bf132_45 rfl rfl).trans ?_
  exact bkS bf132_45 bf132_48 rfl (by decide +kernel) (Nat.le_of_ble_eq_true rfl) rfl (bhd rfl)
theorem bk132_48 {w : am_Wd} {l0 : Nat} {l2 : Int64} {l4 : Int64} {l6 : Int32} {s0 : Int32} : am_run 132 48 [some (.ref l0), none, some (.long l2), none, some (.long l4), none, some (.int l6), none] [.int s0] w = if s0 = (-1 : Int32) then am_run 132 59 [some (.ref l0), none, some (.long l2), none, some (.long l4), none, some (.int l6), none] [] w else am_run 132 56 [none, none, none, none, none, none, none, some (.int s0)] [] w := by
  refine (bu (ls'' := [some (.ref l0), none, some (.long l2), none, some (.long l4), none, some (.int l6), some (.int s0)]) (st' := []) bf132_48 bf132_50 rfl rfl).trans ?_
  refine (bu (ls'' := [some (.ref l0), none, some (.long l2), none, some (.long l4), none, some (.int l6), some (.int s0)]) (st' := [.int s0]) bf132_50 bf132_52 rfl rfl).trans ?_
  refine (bu (ls'' := [some (.ref l0), none, some (.long l2), none, some (.long l4), none, some (.int l6), some (.int s0)]) (st' := [.int (-1 : Int32), .int s0]) bf132_52 bf132_53 rfl rfl).trans ?_
  exact bic bf132_53 rfl bf132_59 bf132_56 rfl rfl rfl
theorem bk132_59 {w : am_Wd} {l0 : Nat} {l2 : Int64} {l4 : Int64} {l6 : Int32} : am_run 132 59 [some (.ref l0), none, some (.long l2), none, some (.long l4), none, some (.int l6), none] [] w = (am_kf w l0 7).bind fun _ => (am_x 23 [.ref l0, .long l4] w).bind fun r => bct r fun v w' => am_run 132 65 [some (.ref l0), none, some (.long l2), none, none, none, some (.int l6), none] (v.toList ++ []) w' := by
  refine (bu (ls'' := [some (.ref l0), none, some (.long l2), none, some (.long l4), none, some (.int l6), none]) (st' := [.ref l0]) bf132_59 bf132_60 rfl rfl).trans ?_
  refine (bu (ls'' := [some (.ref l0), none, some (.long l2), none, none, none, some (.int l6), none]) (st' := [.long l4, .ref l0]) bf132_60 bf132_62 rfl rfl).trans ?_
  exact bkV bf132_62 bf132_65 rfl (by decide +kernel) (Nat.le_of_ble_eq_true rfl) rfl (bhd rfl)
theorem bk132_56 {w : am_Wd} {l7 : Int32} : am_run 132 56 [none, none, none, none, none, none, none, some (.int l7)] [] w = some (.inl (some (.int l7)), w) := by
  refine (bu (ls'' := [none, none, none, none, none, none, none, none]) (st' := [.int l7]) bf132_56 bf132_58 rfl rfl).trans ?_
  exact am_e2 bf132_58 rfl (am_ge_rf w)
theorem bk132_65 {w : am_Wd} {l0 : Nat} {l2 : Int64} {l6 : Int32} {s0 : Int64} : am_run 132 65 [some (.ref l0), none, some (.long l2), none, none, none, some (.int l6), none] [.long s0] w = am_run 132 34 [some (.ref l0), none, some (.long l2), none, some (.long s0), none, some (.int (l6 + (nI 1))), none] [] w := by
  refine (bu (ls'' := [some (.ref l0), none, some (.long l2), none, some (.long s0), none, some (.int l6), none]) (st' := []) bf132_65 bf132_67 rfl rfl).trans ?_
  refine (bu (ls'' := [some (.ref l0), none, some (.long l2), none, some (.long s0), none, some (.int (l6 + (nI 1))), none]) (st' := []) bf132_67 bf132_70 rfl rfl).trans ?_
  refine (bu (ls'' := [some (.ref l0), none, some (.long l2), none, some (.long s0), none, some (.int (l6 + (nI 1))), none]) (st' := []) bf132_70 bf132_34 rfl rfl).trans ?_
  rfl
theorem bf133_0 : am_fetch (am_mth 133) 0 = some (.aload_n 0, 1, [], [3, 4]) := by decide +kernel
theorem bf133_1 : am_fetch (am_mth 133) 1 = some (.iload_n 1, 1, [], [0, 3, 4]) := by decide +kernel
theorem bf133_2 : am_fetch (am_mth 133) 2 = some (.invokevirtual 89, 3, [0, 31, 1, 8, 352, 354, 4, 46], [0, 1, 3, 4]) := by decide +kernel
theorem bf133_5 : am_fetch (am_mth 133) 5 = some (.astore_n 3, 1, [], [0, 1, 3, 4]) := by decide +kernel
theorem bf133_6 : am_fetch (am_mth 133) 6 = some (.iload_n 2, 1, [], [0, 1, 4]) := by decide +kernel
theorem bf133_7 : am_fetch (am_mth 133) 7 = some (.iconst 1, 1, [], [0, 1, 4]) := by decide +kernel
theorem bf133_8 : am_fetch (am_mth 133) 8 = some (.sipush 500, 3, [], [0, 1, 4]) := by decide +kernel
theorem bf133_11 : am_fetch (am_mth 133) 11 = some (.invokestatic 43, 3, [0, 92, 3, 220, 221, 46], [0, 1, 4]) := by decide +kernel
theorem bf133_14 : am_fetch (am_mth 133) 14 = some (.aload_n 3, 1, [], [0, 1, 4]) := by decide +kernel
theorem bf133_15 : am_fetch (am_mth 133) 15 = some (.invokevirtual 103, 3, [0, 17, 0, 6, 667, 668, 669, 63], [0, 1, 4]) := by decide +kernel
theorem bf133_18 : am_fetch (am_mth 133) 18 = some (.aload_n 3, 1, [], [0, 1, 4]) := by decide +kernel
theorem bf133_19 : am_fetch (am_mth 133) 19 = some (.getfield 153, 3, [1, 6, 0, 611], [0, 1, 4]) := by decide +kernel
theorem bf133_22 : am_fetch (am_mth 133) 22 = some (.if_icmp .eq 13, 3, [], [0, 1, 4]) := by decide +kernel
theorem bf133_25 : am_fetch (am_mth 133) 25 = some (.new 79, 3, [1, 2, 545, 62, 777, 156, 83], [0, 1, 2, 3, 4]) := by decide +kernel
theorem bf133_28 : am_fetch (am_mth 133) 28 = some (.dup, 1, [], [0, 1, 2, 3, 4]) := by decide +kernel
theorem bf133_29 : am_fetch (am_mth 133) 29 = some (.ldc 156, 2, [1, 12, 777], [0, 1, 2, 3, 4]) := by decide +kernel
theorem bf133_31 : am_fetch (am_mth 133) 31 = some (.invokespecial 83, 3, [], [0, 1, 2, 3, 4]) := by decide +kernel
theorem bf133_34 : am_fetch (am_mth 133) 34 = some (.athrow, 1, [], [0, 1, 2, 3, 4]) := by decide +kernel
theorem bf133_35 : am_fetch (am_mth 133) 35 = some (.aload_n 3, 1, [], [0, 1, 4]) := by decide +kernel
theorem bf133_36 : am_fetch (am_mth 133) 36 = some (.getfield 158, 3, [1, 6, 4, 619], [0, 1, 4]) := by decide +kernel
theorem bf133_39 : am_fetch (am_mth 133) 39 = some (.istore 4, 2, [], [0, 1, 4]) := by decide +kernel
theorem bf133_41 : am_fetch (am_mth 133) 41 = some (.aload_n 3, 1, [], [0, 1]) := by decide +kernel
theorem bf133_42 : am_fetch (am_mth 133) 42 = some (.iload_n 2, 1, [], [0, 1, 3]) := by decide +kernel
theorem bf133_43 : am_fetch (am_mth 133) 43 = some (.putfield 158, 3, [1, 6, 4, 619], [0, 1, 2, 3]) := by decide +kernel
theorem bf133_46 : am_fetch (am_mth 133) 46 = some (.iload 4, 2, [], [0, 1, 2, 3]) := by decide +kernel
theorem bf133_48 : am_fetch (am_mth 133) 48 = some (.ireturn, 1, [0], [0, 1, 2, 3, 4]) := by decide +kernel
theorem bk133_0 {w : am_Wd} {l0 : Nat} {l1 : Int32} {l2 : Int32} : am_run 133 0 [some (.ref l0), some (.int l1), some (.int l2), none, none] [] w = (am_kf w l0 8).bind fun _ => (am_x 31 [.ref l0, .int l1] w).bind fun r => bct r fun v w' => am_run 133 5 [none, none, some (.int l2), none, none] (v.toList ++ []) w' := by
  refine (bu (ls'' := [none, some (.int l1), some (.int l2), none, none]) (st' := [.ref l0]) bf133_0 bf133_1 rfl rfl).trans ?_
  refine (bu (ls'' := [none, none, some (.int l2), none, none]) (st' := [.int l1, .ref l0]) bf133_1 bf133_2 rfl rfl).trans ?_
  exact bkV bf133_2 bf133_5 rfl (by decide +kernel) (Nat.le_of_ble_eq_true rfl) rfl (bhd rfl)
theorem bk133_5 {w : am_Wd} {l2 : Int32} {s0 : Nat} : am_run 133 5 [none, none, some (.int l2), none, none] [.ref s0] w = (am_x 92 [.int l2, .int (nI 1), .int (nI 500)] w).bind fun r => bct r fun v w' => am_run 133 14 [none, none, some (.int l2), some (.ref s0), none] (v.toList ++ []) w' := by
  refine (bu (ls'' := [none, none, some (.int l2), some (.ref s0), none]) (st' := []) bf133_5 bf133_6 rfl rfl).trans ?_
  refine (bu (ls'' := [none, none, some (.int l2), some (.ref s0), none]) (st' := [.int l2]) bf133_6 bf133_7 rfl rfl).trans ?_
  refine (bu (ls'' := [none, none, some (.int l2), some (.ref s0), none]) (st' := [.int (nI 1), .int l2]) bf133_7 bf133_8 rfl rfl).trans ?_
  refine (bu (ls'' := [none, none, some (.int l2), some (.ref s0), none]) (st' := [.int (nI 500), .int (nI 1), .int l2]) bf133_8 bf133_11 rfl rfl).trans ?_
  exact bkS bf133_11 bf133_14 rfl (by decide +kernel) (Nat.le_of_ble_eq_true rfl) rfl (bhd rfl)
theorem bk133_14 {w : am_Wd} {l2 : Int32} {l3 : Nat} : am_run 133 14 [none, none, some (.int l2), some (.ref l3), none] [] w = (am_kf w l3 6).bind fun _ => (am_x 17 [.ref l3] w).bind fun r => bct r fun v w' => am_run 133 18 [none, none, some (.int l2), some (.ref l3), none] (v.toList ++ []) w' := by
  refine (bu (ls'' := [none, none, some (.int l2), some (.ref l3), none]) (st' := [.ref l3]) bf133_14 bf133_15 rfl rfl).trans ?_
  exact bkV bf133_15 bf133_18 rfl (by decide +kernel) (Nat.le_of_ble_eq_true rfl) rfl (bhd rfl)
theorem bk133_18 {w : am_Wd} {l2 : Int32} {l3 : Nat} {s0 : Int32} : am_run 133 18 [none, none, some (.int l2), some (.ref l3), none] [.int s0] w = (am_gf w l3 6 0).bind fun v => am_run 133 22 [none, none, some (.int l2), some (.ref l3), none] (v :: [.int s0]) w := by
  refine (bu (ls'' := [none, none, some (.int l2), some (.ref l3), none]) (st' := [.ref l3, .int s0]) bf133_18 bf133_19 rfl rfl).trans ?_
  exact bh bf133_19 bf133_22 rfl (fun _ _ => am_ge_rf w) rfl
theorem bk133_22 {w : am_Wd} {l2 : Int32} {l3 : Nat} {s0 : Int32} {s1 : Int32} : am_run 133 22 [none, none, some (.int l2), some (.ref l3), none] [.int s0, .int s1] w = if s1 = s0 then am_run 133 35 [none, none, some (.int l2), some (.ref l3), none] [] w else am_run 133 25 [none, none, none, none, none] [] w := by
  exact bic bf133_22 rfl bf133_35 bf133_25 rfl rfl rfl
theorem bk133_35 {w : am_Wd} {l2 : Int32} {l3 : Nat} : am_run 133 35 [none, none, some (.int l2), some (.ref l3), none] [] w = (am_gf w l3 6 4).bind fun v => am_run 133 39 [none, none, some (.int l2), some (.ref l3), none] (v :: []) w := by
  refine (bu (ls'' := [none, none, some (.int l2), some (.ref l3), none]) (st' := [.ref l3]) bf133_35 bf133_36 rfl rfl).trans ?_
  exact bh bf133_36 bf133_39 rfl (fun _ _ => am_ge_rf w) rfl
theorem bk133_25 {w : am_Wd}  : am_run 133 25 [none, none, none, none, none] [] w = some (.inr (am_xn 2), am_jk w 1 6) := by
  exact am_e2 bf133_25 rfl (am_ge_jk _ _ _)
theorem bk133_39 {w : am_Wd} {l2 : Int32} {l3 : Nat} {s0 : Int32} : am_run 133 39 [none, none, some (.int l2), some (.ref l3), none] [.int s0] w = (am_pf w l3 6 4 (.int l2)).bind fun w' => am_run 133 46 [none, none, none, none, some (.int s0)] [] w' := by
  refine (bu (ls'' := [none, none, some (.int l2), some (.ref l3), some (.int s0)]) (st' := []) bf133_39 bf133_41 rfl rfl).trans ?_
  refine (bu (ls'' := [none, none, some (.int l2), none, some (.int s0)]) (st' := [.ref l3]) bf133_41 bf133_42 rfl rfl).trans ?_
  refine (bu (ls'' := [none, none, none, none, some (.int s0)]) (st' := [.int l2, .ref l3]) bf133_42 bf133_43 rfl rfl).trans ?_
  exact bh bf133_43 bf133_46 rfl (bge_pf) rfl
theorem bk133_46 {w : am_Wd} {l4 : Int32} : am_run 133 46 [none, none, none, none, some (.int l4)] [] w = some (.inl (some (.int l4)), w) := by
  refine (bu (ls'' := [none, none, none, none, none]) (st' := [.int l4]) bf133_46 bf133_48 rfl rfl).trans ?_
  exact am_e2 bf133_48 rfl (am_ge_rf w)
theorem bf134_0 : am_fetch (am_mth 134) 0 = some (.aload_n 0, 1, [], [2, 3]) := by decide +kernel
theorem bf134_1 : am_fetch (am_mth 134) 1 = some (.iload_n 1, 1, [], [0, 2, 3]) := by decide +kernel
theorem bf134_2 : am_fetch (am_mth 134) 2 = some (.invokevirtual 89, 3, [0, 31, 1, 8, 352, 354, 4, 46], [0, 1, 2, 3]) := by decide +kernel
theorem bf134_5 : am_fetch (am_mth 134) 5 = some (.astore_n 2, 1, [], [0, 1, 2, 3]) := by decide +kernel
theorem bf134_6 : am_fetch (am_mth 134) 6 = some (.aload_n 2, 1, [], [0, 1, 3]) := by decide +kernel
theorem bf134_7 : am_fetch (am_mth 134) 7 = some (.getfield 133, 3, [1, 6, 2, 615], [0, 1, 3]) := by decide +kernel
theorem bf134_10 : am_fetch (am_mth 134) 10 = some (.invokevirtual 137, 3, [0, 72, 0, 4, 735, 152, 153, 65], [0, 1, 3]) := by decide +kernel
theorem bf134_13 : am_fetch (am_mth 134) 13 = some (.istore_n 3, 1, [], [0, 1, 3]) := by decide +kernel
theorem bf134_14 : am_fetch (am_mth 134) 14 = some (.aload_n 2, 1, [], [0, 1]) := by decide +kernel
theorem bf134_15 : am_fetch (am_mth 134) 15 = some (.getfield 133, 3, [1, 6, 2, 615], [0, 1]) := by decide +kernel
theorem bf134_18 : am_fetch (am_mth 134) 18 = some (.aload_n 2, 1, [], [0, 1]) := by decide +kernel
theorem bf134_19 : am_fetch (am_mth 134) 19 = some (.getfield 161, 3, [1, 6, 3, 617], [0, 1, 2]) := by decide +kernel
theorem bf134_22 : am_fetch (am_mth 134) 22 = some (.invokevirtual 164, 3, [0, 2, 1, 4, 785, 602, 603, 65], [0, 1, 2]) := by decide +kernel
theorem bf134_25 : am_fetch (am_mth 134) 25 = some (.iload_n 3, 1, [], [0, 1, 2]) := by decide +kernel
theorem bf134_26 : am_fetch (am_mth 134) 26 = some (.ireturn, 1, [0], [0, 1, 2, 3]) := by decide +kernel
theorem bk134_0 {w : am_Wd} {l0 : Nat} {l1 : Int32} : am_run 134 0 [some (.ref l0), some (.int l1), none, none] [] w = (am_kf w l0 8).bind fun _ => (am_x 31 [.ref l0, .int l1] w).bind fun r => bct r fun v w' => am_run 134 5 [none, none, none, none] (v.toList ++ []) w' := by
  refine (bu (ls'' := [none, some (.int l1), none, none]) (st' := [.ref l0]) bf134_0 bf134_1 rfl rfl).trans ?_
  refine (bu (ls'' := [none, none, none, none]) (st' := [.int l1, .ref l0]) bf134_1 bf134_2 rfl rfl).trans ?_
  exact bkV bf134_2 bf134_5 rfl (by decide +kernel) (Nat.le_of_ble_eq_true rfl) rfl (bhd rfl)
theorem bk134_5 {w : am_Wd} {s0 : Nat} : am_run 134 5 [none, none, none, none] [.ref s0] w = (am_gf w s0 6 2).bind fun v => am_run 134 10 [none, none, some (.ref s0), none] (v :: []) w := by
  refine (bu (ls'' := [none, none, some (.ref s0), none]) (st' := []) bf134_5 bf134_6 rfl rfl).trans ?_
  refine (bu (ls'' := [none, none, some (.ref s0), none]) (st' := [.ref s0]) bf134_6 bf134_7 rfl rfl).trans ?_
  exact bh bf134_7 bf134_10 rfl (fun _ _ => am_ge_rf w) rfl
theorem bk134_10 {w : am_Wd} {l2 : Nat} {s0 : Nat} : am_run 134 10 [none, none, some (.ref l2), none] [.ref s0] w = (am_kf w s0 4).bind fun _ => (am_x 72 [.ref s0] w).bind fun r => bct r fun v w' => am_run 134 13 [none, none, some (.ref l2), none] (v.toList ++ []) w' := by
  exact bkV bf134_10 bf134_13 rfl (by decide +kernel) (Nat.le_of_ble_eq_true rfl) rfl (bhd rfl)
theorem bk134_13 {w : am_Wd} {l2 : Nat} {s0 : Int32} : am_run 134 13 [none, none, some (.ref l2), none] [.int s0] w = (am_gf w l2 6 2).bind fun v => am_run 134 18 [none, none, some (.ref l2), some (.int s0)] (v :: []) w := by
  refine (bu (ls'' := [none, none, some (.ref l2), some (.int s0)]) (st' := []) bf134_13 bf134_14 rfl rfl).trans ?_
  refine (bu (ls'' := [none, none, some (.ref l2), some (.int s0)]) (st' := [.ref l2]) bf134_14 bf134_15 rfl rfl).trans ?_
  exact bh bf134_15 bf134_18 rfl (fun _ _ => am_ge_rf w) rfl
theorem bk134_18 {w : am_Wd} {l2 : Nat} {l3 : Int32} {s0 : Nat} : am_run 134 18 [none, none, some (.ref l2), some (.int l3)] [.ref s0] w = (am_gf w l2 6 3).bind fun v => am_run 134 22 [none, none, none, some (.int l3)] (v :: [.ref s0]) w := by
  refine (bu (ls'' := [none, none, none, some (.int l3)]) (st' := [.ref l2, .ref s0]) bf134_18 bf134_19 rfl rfl).trans ?_
  exact bh bf134_19 bf134_22 rfl (fun _ _ => am_ge_rf w) rfl
theorem bk134_22 {w : am_Wd} {l3 : Int32} {s0 : Int32} {s1 : Nat} : am_run 134 22 [none, none, none, some (.int l3)] [.int s0, .ref s1] w = (am_kf w s1 4).bind fun _ => (am_x 2 [.ref s1, .int s0] w).bind fun r => bct r fun v w' => am_run 134 25 [none, none, none, some (.int l3)] (v.toList ++ []) w' := by
  exact bkV bf134_22 bf134_25 rfl (by decide +kernel) (Nat.le_of_ble_eq_true rfl) rfl (bhd rfl)
theorem bk134_25 {w : am_Wd} {l3 : Int32} : am_run 134 25 [none, none, none, some (.int l3)] [] w = some (.inl (some (.int l3)), w) := by
  refine (bu (ls'' := [none, none, none, none]) (st' := [.int l3]) bf134_25 bf134_26 rfl rfl).trans ?_
  exact am_e2 bf134_26 rfl (am_ge_rf w)
theorem bf135_0 : am_fetch (am_mth 135) 0 = some (.iload_n 1, 1, [], []) := by decide +kernel
theorem bf135_1 : am_fetch (am_mth 135) 1 = some (.iconst 1, 1, [], []) := by decide +kernel
theorem bf135_2 : am_fetch (am_mth 135) 2 = some (.sipush 600, 3, [], []) := by decide +kernel
theorem bf135_5 : am_fetch (am_mth 135) 5 = some (.invokestatic 43, 3, [0, 92, 3, 220, 221, 46], []) := by decide +kernel
theorem bf135_8 : am_fetch (am_mth 135) 8 = some (.aload_n 0, 1, [], []) := by decide +kernel
theorem bf135_9 : am_fetch (am_mth 135) 9 = some (.getfield 192, 3, [0, 8, 3, 114], []) := by decide +kernel
theorem bf135_12 : am_fetch (am_mth 135) 12 = some (.iload_n 1, 1, [], []) := by decide +kernel
theorem bf135_13 : am_fetch (am_mth 135) 13 = some (.iadd, 1, [], []) := by decide +kernel
theorem bf135_14 : am_fetch (am_mth 135) 14 = some (.sipush 3000, 3, [], []) := by decide +kernel
theorem bf135_17 : am_fetch (am_mth 135) 17 = some (.if_icmp .le 13, 3, [], []) := by decide +kernel
theorem bf135_20 : am_fetch (am_mth 135) 20 = some (.new 79, 3, [1, 2, 545, 62, 814, 195, 83], [0, 1]) := by decide +kernel
theorem bf135_23 : am_fetch (am_mth 135) 23 = some (.dup, 1, [], [0, 1]) := by decide +kernel
theorem bf135_24 : am_fetch (am_mth 135) 24 = some (.ldc 195, 2, [1, 14, 814], [0, 1]) := by decide +kernel
theorem bf135_26 : am_fetch (am_mth 135) 26 = some (.invokespecial 83, 3, [], [0, 1]) := by decide +kernel
theorem bf135_29 : am_fetch (am_mth 135) 29 = some (.athrow, 1, [], [0, 1]) := by decide +kernel
theorem bf135_30 : am_fetch (am_mth 135) 30 = some (.aload_n 0, 1, [], []) := by decide +kernel
theorem bf135_31 : am_fetch (am_mth 135) 31 = some (.dup, 1, [], []) := by decide +kernel
theorem bf135_32 : am_fetch (am_mth 135) 32 = some (.getfield 192, 3, [0, 8, 3, 114], []) := by decide +kernel
theorem bf135_35 : am_fetch (am_mth 135) 35 = some (.iload_n 1, 1, [], []) := by decide +kernel
theorem bf135_36 : am_fetch (am_mth 135) 36 = some (.iadd, 1, [], [1]) := by decide +kernel
theorem bf135_37 : am_fetch (am_mth 135) 37 = some (.putfield 192, 3, [0, 8, 3, 114], [1]) := by decide +kernel
theorem bf135_40 : am_fetch (am_mth 135) 40 = some (.aload_n 0, 1, [], [1]) := by decide +kernel
theorem bf135_41 : am_fetch (am_mth 135) 41 = some (.getfield 192, 3, [0, 8, 3, 114], [0, 1]) := by decide +kernel
theorem bf135_44 : am_fetch (am_mth 135) 44 = some (.ireturn, 1, [0], [0, 1]) := by decide +kernel
theorem bk135_0 {w : am_Wd} {l0 : Nat} {l1 : Int32} : am_run 135 0 [some (.ref l0), some (.int l1)] [] w = (am_x 92 [.int l1, .int (nI 1), .int (nI 600)] w).bind fun r => bct r fun v w' => am_run 135 8 [some (.ref l0), some (.int l1)] (v.toList ++ []) w' := by
  refine (bu (ls'' := [some (.ref l0), some (.int l1)]) (st' := [.int l1]) bf135_0 bf135_1 rfl rfl).trans ?_
  refine (bu (ls'' := [some (.ref l0), some (.int l1)]) (st' := [.int (nI 1), .int l1]) bf135_1 bf135_2 rfl rfl).trans ?_
  refine (bu (ls'' := [some (.ref l0), some (.int l1)]) (st' := [.int (nI 600), .int (nI 1), .int l1]) bf135_2 bf135_5 rfl rfl).trans ?_
  exact bkS bf135_5 bf135_8 rfl (by decide +kernel) (Nat.le_of_ble_eq_true rfl) rfl (bhd rfl)
theorem bk135_8 {w : am_Wd} {l0 : Nat} {l1 : Int32} : am_run 135 8 [some (.ref l0), some (.int l1)] [] w = (am_gf w l0 8 3).bind fun v => am_run 135 12 [some (.ref l0), some (.int l1)] (v :: []) w := by
  refine (bu (ls'' := [some (.ref l0), some (.int l1)]) (st' := [.ref l0]) bf135_8 bf135_9 rfl rfl).trans ?_
  exact bh bf135_9 bf135_12 rfl (fun _ _ => am_ge_rf w) rfl
theorem bk135_12 {w : am_Wd} {l0 : Nat} {l1 : Int32} {s0 : Int32} : am_run 135 12 [some (.ref l0), some (.int l1)] [.int s0] w = if (s0 + l1) ≤ (nI 3000) then am_run 135 30 [some (.ref l0), some (.int l1)] [] w else am_run 135 20 [none, none] [] w := by
  refine (bu (ls'' := [some (.ref l0), some (.int l1)]) (st' := [.int l1, .int s0]) bf135_12 bf135_13 rfl rfl).trans ?_
  refine (bu (ls'' := [some (.ref l0), some (.int l1)]) (st' := [.int (s0 + l1)]) bf135_13 bf135_14 rfl rfl).trans ?_
  refine (bu (ls'' := [some (.ref l0), some (.int l1)]) (st' := [.int (nI 3000), .int (s0 + l1)]) bf135_14 bf135_17 rfl rfl).trans ?_
  exact bic bf135_17 rfl bf135_30 bf135_20 rfl rfl rfl
theorem bk135_30 {w : am_Wd} {l0 : Nat} {l1 : Int32} : am_run 135 30 [some (.ref l0), some (.int l1)] [] w = (am_gf w l0 8 3).bind fun v => am_run 135 35 [some (.ref l0), some (.int l1)] (v :: [.ref l0]) w := by
  refine (bu (ls'' := [some (.ref l0), some (.int l1)]) (st' := [.ref l0]) bf135_30 bf135_31 rfl rfl).trans ?_
  refine (bu (ls'' := [some (.ref l0), some (.int l1)]) (st' := [.ref l0, .ref l0]) bf135_31 bf135_32 rfl rfl).trans ?_
  exact bh bf135_32 bf135_35 rfl (fun _ _ => am_ge_rf w) rfl
theorem bk135_20 {w : am_Wd}  : am_run 135 20 [none, none] [] w = some (.inr (am_xn 2), am_jk w 1 6) := by
  exact am_e2 bf135_20 rfl (am_ge_jk _ _ _)
theorem bk135_35 {w : am_Wd} {l0 : Nat} {l1 : Int32} {s0 : Int32} {s1 : Nat} : am_run 135 35 [some (.ref l0), some (.int l1)] [.int s0, .ref s1] w = (am_pf w s1 8 3 (.int (s0 + l1))).bind fun w' => am_run 135 40 [some (.ref l0), none] [] w' := by
  refine (bu (ls'' := [some (.ref l0), none]) (st' := [.int l1, .int s0, .ref s1]) bf135_35 bf135_36 rfl rfl).trans ?_
  refine (bu (ls'' := [some (.ref l0), none]) (st' := [.int (s0 + l1), .ref s1]) bf135_36 bf135_37 rfl rfl).trans ?_
  exact bh bf135_37 bf135_40 rfl (bge_pf) rfl
theorem bk135_40 {w : am_Wd} {l0 : Nat} : am_run 135 40 [some (.ref l0), none] [] w = (am_gf w l0 8 3).bind fun v => am_run 135 44 [none, none] (v :: []) w := by
  refine (bu (ls'' := [none, none]) (st' := [.ref l0]) bf135_40 bf135_41 rfl rfl).trans ?_
  exact bh bf135_41 bf135_44 rfl (fun _ _ => am_ge_rf w) rfl
theorem bk135_44 {w : am_Wd} {s0 : Int32} : am_run 135 44 [none, none] [.int s0] w = some (.inl (some (.int s0)), w) := by
  exact am_e2 bf135_44 rfl (am_ge_rf w)
theorem bf136_0 : am_fetch (am_mth 136) 0 = some (.iload_n 1, 1, [], []) := by decide +kernel
theorem bf136_1 : am_fetch (am_mth 136) 1 = some (.iconst 0, 1, [], []) := by decide +kernel
theorem bf136_2 : am_fetch (am_mth 136) 2 = some (.bipush 11, 2, [], []) := by decide +kernel
theorem bf136_4 : am_fetch (am_mth 136) 4 = some (.invokestatic 43, 3, [0, 92, 3, 220, 221, 46], []) := by decide +kernel
theorem bf136_7 : am_fetch (am_mth 136) 7 = some (.iload_n 1, 1, [], []) := by decide +kernel
theorem bf136_8 : am_fetch (am_mth 136) 8 = some (.tableswitch 142 0 10 #[60, 65, 70, 79, 88, 100, 111, 122, 127, 132, 137], 60, [], [1]) := by decide +kernel
theorem bf136_68 : am_fetch (am_mth 136) 68 = some (.aload_n 0, 1, [], [1]) := by decide +kernel
theorem bf136_69 : am_fetch (am_mth 136) 69 = some (.getfield 192, 3, [0, 8, 3, 114], [0, 1]) := by decide +kernel
theorem bf136_72 : am_fetch (am_mth 136) 72 = some (.ireturn, 1, [0], [0, 1]) := by decide +kernel
theorem bf136_73 : am_fetch (am_mth 136) 73 = some (.aload_n 0, 1, [], [1]) := by decide +kernel
theorem bf136_74 : am_fetch (am_mth 136) 74 = some (.invokevirtual 110, 3, [0, 33, 0, 8, 165, 167, 1, 46], [0, 1]) := by decide +kernel
theorem bf136_77 : am_fetch (am_mth 136) 77 = some (.ireturn, 1, [0], [0, 1]) := by decide +kernel
theorem bf136_78 : am_fetch (am_mth 136) 78 = some (.aload_n 0, 1, [], [1]) := by decide +kernel
theorem bf136_79 : am_fetch (am_mth 136) 79 = some (.getfield 10, 3, [0, 8, 0, 111], [0, 1]) := by decide +kernel
theorem bf136_82 : am_fetch (am_mth 136) 82 = some (.iconst 1, 1, [], [0, 1]) := by decide +kernel
theorem bf136_83 : am_fetch (am_mth 136) 83 = some (.invokevirtual 58, 3, [0, 10, 1, 5, 294, 295, 296, 47], [0, 1]) := by decide +kernel
theorem bf136_86 : am_fetch (am_mth 136) 86 = some (.ireturn, 1, [0], [0, 1]) := by decide +kernel
theorem bf136_87 : am_fetch (am_mth 136) 87 = some (.aload_n 0, 1, [], [1]) := by decide +kernel
theorem bf136_88 : am_fetch (am_mth 136) 88 = some (.getfield 10, 3, [0, 8, 0, 111], [0, 1]) := by decide +kernel
theorem bf136_91 : am_fetch (am_mth 136) 91 = some (.iconst 2, 1, [], [0, 1]) := by decide +kernel
theorem bf136_92 : am_fetch (am_mth 136) 92 = some (.invokevirtual 58, 3, [0, 10, 1, 5, 294, 295, 296, 47], [0, 1]) := by decide +kernel
theorem bf136_95 : am_fetch (am_mth 136) 95 = some (.ireturn, 1, [0], [0, 1]) := by decide +kernel
theorem bf136_96 : am_fetch (am_mth 136) 96 = some (.aload_n 0, 1, [], [1]) := by decide +kernel
theorem bf136_97 : am_fetch (am_mth 136) 97 = some (.getfield 10, 3, [0, 8, 0, 111], [1]) := by decide +kernel
theorem bf136_100 : am_fetch (am_mth 136) 100 = some (.aload_n 0, 1, [], [1]) := by decide +kernel
theorem bf136_101 : am_fetch (am_mth 136) 101 = some (.invokevirtual 110, 3, [0, 33, 0, 8, 165, 167, 1, 46], [0, 1]) := by decide +kernel
theorem bf136_104 : am_fetch (am_mth 136) 104 = some (.invokevirtual 214, 3, [0, 77, 1, 5, 298, 299, 300, 47], [0, 1]) := by decide +kernel
theorem bf136_107 : am_fetch (am_mth 136) 107 = some (.ireturn, 1, [0], [0, 1]) := by decide +kernel
theorem bf136_108 : am_fetch (am_mth 136) 108 = some (.aload_n 0, 1, [], [1]) := by decide +kernel
theorem bf136_109 : am_fetch (am_mth 136) 109 = some (.getfield 10, 3, [0, 8, 0, 111], [0, 1]) := by decide +kernel
theorem bf136_112 : am_fetch (am_mth 136) 112 = some (.getfield 217, 3, [1, 5, 2, 96], [0, 1]) := by decide +kernel
theorem bf136_115 : am_fetch (am_mth 136) 115 = some (.invokestatic 70, 3, [0, 50, 1, 302, 156, 61], [0, 1]) := by decide +kernel
theorem bf136_118 : am_fetch (am_mth 136) 118 = some (.ireturn, 1, [0], [0, 1]) := by decide +kernel
theorem bf136_119 : am_fetch (am_mth 136) 119 = some (.aload_n 0, 1, [], [1]) := by decide +kernel
theorem bf136_120 : am_fetch (am_mth 136) 120 = some (.getfield 10, 3, [0, 8, 0, 111], [0, 1]) := by decide +kernel
theorem bf136_123 : am_fetch (am_mth 136) 123 = some (.getfield 66, 3, [1, 5, 3, 97], [0, 1]) := by decide +kernel
theorem bf136_126 : am_fetch (am_mth 136) 126 = some (.invokestatic 70, 3, [0, 50, 1, 302, 156, 61], [0, 1]) := by decide +kernel
theorem bf136_129 : am_fetch (am_mth 136) 129 = some (.ireturn, 1, [0], [0, 1]) := by decide +kernel
theorem bf136_130 : am_fetch (am_mth 136) 130 = some (.aload_n 0, 1, [], [1]) := by decide +kernel
theorem bf136_131 : am_fetch (am_mth 136) 131 = some (.getfield 76, 3, [0, 8, 2, 113], [0, 1]) := by decide +kernel
theorem bf136_134 : am_fetch (am_mth 136) 134 = some (.ireturn, 1, [0], [0, 1]) := by decide +kernel
theorem bf136_135 : am_fetch (am_mth 136) 135 = some (.aload_n 0, 1, [], [1]) := by decide +kernel
theorem bf136_136 : am_fetch (am_mth 136) 136 = some (.getfield 220, 3, [0, 8, 5, 116], [0, 1]) := by decide +kernel
theorem bf136_139 : am_fetch (am_mth 136) 139 = some (.ireturn, 1, [0], [0, 1]) := by decide +kernel
theorem bf136_140 : am_fetch (am_mth 136) 140 = some (.aload_n 0, 1, [], [1]) := by decide +kernel
theorem bf136_141 : am_fetch (am_mth 136) 141 = some (.getfield 173, 3, [0, 8, 6, 117], [0, 1]) := by decide +kernel
theorem bf136_144 : am_fetch (am_mth 136) 144 = some (.ireturn, 1, [0], [0, 1]) := by decide +kernel
theorem bf136_145 : am_fetch (am_mth 136) 145 = some (.aload_n 0, 1, [], [1]) := by decide +kernel
theorem bf136_146 : am_fetch (am_mth 136) 146 = some (.getfield 176, 3, [0, 8, 7, 118], [0, 1]) := by decide +kernel
theorem bf136_149 : am_fetch (am_mth 136) 149 = some (.ireturn, 1, [0], [0, 1]) := by decide +kernel
theorem bf136_150 : am_fetch (am_mth 136) 150 = some (.aload_n 0, 1, [], [1]) := by decide +kernel
theorem bf136_151 : am_fetch (am_mth 136) 151 = some (.getfield 197, 3, [0, 8, 8, 119], [0, 1]) := by decide +kernel
theorem bf136_154 : am_fetch (am_mth 136) 154 = some (.ireturn, 1, [0], [0, 1]) := by decide +kernel
theorem bk136_0 {w : am_Wd} {l0 : Nat} {l1 : Int32} : am_run 136 0 [some (.ref l0), some (.int l1)] [] w = (am_x 92 [.int l1, .int (nI 0), .int (nI 11)] w).bind fun r => bct r fun v w' => am_run 136 7 [some (.ref l0), some (.int l1)] (v.toList ++ []) w' := by
  refine (bu (ls'' := [some (.ref l0), some (.int l1)]) (st' := [.int l1]) bf136_0 bf136_1 rfl rfl).trans ?_
  refine (bu (ls'' := [some (.ref l0), some (.int l1)]) (st' := [.int (nI 0), .int l1]) bf136_1 bf136_2 rfl rfl).trans ?_
  refine (bu (ls'' := [some (.ref l0), some (.int l1)]) (st' := [.int (nI 11), .int (nI 0), .int l1]) bf136_2 bf136_4 rfl rfl).trans ?_
  exact bkS bf136_4 bf136_7 rfl (by decide +kernel) (Nat.le_of_ble_eq_true rfl) rfl (bhd rfl)
theorem bk136_7 {w : am_Wd} {l0 : Nat} {l1 : Int32} : am_run 136 7 [some (.ref l0), some (.int l1)] [] w = if l1 = (nI 0) then am_run 136 68 [some (.ref l0), none] [] w else if l1 = (nI 1) then am_run 136 73 [some (.ref l0), none] [] w else if l1 = (nI 2) then am_run 136 78 [some (.ref l0), none] [] w else if l1 = (nI 3) then am_run 136 87 [some (.ref l0), none] [] w else if l1 = (nI 4) then am_run 136 96 [some (.ref l0), none] [] w else if l1 = (nI 5) then am_run 136 108 [some (.ref l0), none] [] w else if l1 = (nI 6) then am_run 136 119 [some (.ref l0), none] [] w else if l1 = (nI 7) then am_run 136 130 [some (.ref l0), none] [] w else if l1 = (nI 8) then am_run 136 135 [some (.ref l0), none] [] w else if l1 = (nI 9) then am_run 136 140 [some (.ref l0), none] [] w else if l1 = (nI 10) then am_run 136 145 [some (.ref l0), none] [] w else am_run 136 150 [some (.ref l0), none] [] w := by
  refine (bu (ls'' := [some (.ref l0), none]) (st' := [.int l1]) bf136_7 bf136_8 rfl rfl).trans ?_
  refine bsw (fun q => ?_) (fun q0 => ?_)
  · exact bu (ls' := [some (.ref l0), none]) (ls'' := [some (.ref l0), none]) (st' := []) bf136_8 bf136_68 (by rw [q]; rfl) rfl
  refine bsw (fun q => ?_) (fun q1 => ?_)
  · exact bu (ls' := [some (.ref l0), none]) (ls'' := [some (.ref l0), none]) (st' := []) bf136_8 bf136_73 (by rw [q]; rfl) rfl
  refine bsw (fun q => ?_) (fun q2 => ?_)
  · exact bu (ls' := [some (.ref l0), none]) (ls'' := [some (.ref l0), none]) (st' := []) bf136_8 bf136_78 (by rw [q]; rfl) rfl
  refine bsw (fun q => ?_) (fun q3 => ?_)
  · exact bu (ls' := [some (.ref l0), none]) (ls'' := [some (.ref l0), none]) (st' := []) bf136_8 bf136_87 (by rw [q]; rfl) rfl
  refine bsw (fun q => ?_) (fun q4 => ?_)
  · exact bu (ls' := [some (.ref l0), none]) (ls'' := [some (.ref l0), none]) (st' := []) bf136_8 bf136_96 (by rw [q]; rfl) rfl
  refine bsw (fun q => ?_) (fun q5 => ?_)
  · exact bu (ls' := [some (.ref l0), none]) (ls'' := [some (.ref l0), none]) (st' := []) bf136_8 bf136_108 (by rw [q]; rfl) rfl
  refine bsw (fun q => ?_) (fun q6 => ?_)
  · exact bu (ls' := [some (.ref l0), none]) (ls'' := [some (.ref l0), none]) (st' := []) bf136_8 bf136_119 (by rw [q]; rfl) rfl
  refine bsw (fun q => ?_) (fun q7 => ?_)
  · exact bu (ls' := [some (.ref l0), none]) (ls'' := [some (.ref l0), none]) (st' := []) bf136_8 bf136_130 (by rw [q]; rfl) rfl
  refine bsw (fun q => ?_) (fun q8 => ?_)
  · exact bu (ls' := [some (.ref l0), none]) (ls'' := [some (.ref l0), none]) (st' := []) bf136_8 bf136_135 (by rw [q]; rfl) rfl
  refine bsw (fun q => ?_) (fun q9 => ?_)
  · exact bu (ls' := [some (.ref l0), none]) (ls'' := [some (.ref l0), none]) (st' := []) bf136_8 bf136_140 (by rw [q]; rfl) rfl
  refine bsw (fun q => ?_) (fun q10 => ?_)
  · exact bu (ls' := [some (.ref l0), none]) (ls'' := [some (.ref l0), none]) (st' := []) bf136_8 bf136_145 (by rw [q]; rfl) rfl
  exact bsd bf136_8 bf136_150 rfl rfl (bcon (by rfl) q0 (bcon (by rfl) q1 (bcon (by rfl) q2 (bcon (by rfl) q3 (bcon (by rfl) q4 (bcon (by rfl) q5 (bcon (by rfl) q6 (bcon (by rfl) q7 (bcon (by rfl) q8 (bcon (by rfl) q9 (bcon (by rfl) q10 (bnil)))))))))))) rfl
theorem bk136_68 {w : am_Wd} {l0 : Nat} : am_run 136 68 [some (.ref l0), none] [] w = (am_gf w l0 8 3).bind fun v => am_run 136 72 [none, none] (v :: []) w := by
  refine (bu (ls'' := [none, none]) (st' := [.ref l0]) bf136_68 bf136_69 rfl rfl).trans ?_
  exact bh bf136_69 bf136_72 rfl (fun _ _ => am_ge_rf w) rfl
theorem bk136_73 {w : am_Wd} {l0 : Nat} : am_run 136 73 [some (.ref l0), none] [] w = (am_kf w l0 8).bind fun _ => (am_x 33 [.ref l0] w).bind fun r => bct r fun v w' => am_run 136 77 [none, none] (v.toList ++ []) w' := by
  refine (bu (ls'' := [none, none]) (st' := [.ref l0]) bf136_73 bf136_74 rfl rfl).trans ?_
  exact bkV bf136_74 bf136_77 rfl (by decide +kernel) (Nat.le_of_ble_eq_true rfl) rfl (bhd rfl)
theorem bk136_78 {w : am_Wd} {l0 : Nat} : am_run 136 78 [some (.ref l0), none] [] w = (am_gf w l0 8 0).bind fun v => am_run 136 82 [none, none] (v :: []) w := by
  refine (bu (ls'' := [none, none]) (st' := [.ref l0]) bf136_78 bf136_79 rfl rfl).trans ?_
  exact bh bf136_79 bf136_82 rfl (fun _ _ => am_ge_rf w) rfl
theorem bk136_87 {w : am_Wd} {l0 : Nat} : am_run 136 87 [some (.ref l0), none] [] w = (am_gf w l0 8 0).bind fun v => am_run 136 91 [none, none] (v :: []) w := by
  refine (bu (ls'' := [none, none]) (st' := [.ref l0]) bf136_87 bf136_88 rfl rfl).trans ?_
  exact bh bf136_88 bf136_91 rfl (fun _ _ => am_ge_rf w) rfl
theorem bk136_96 {w : am_Wd} {l0 : Nat} : am_run 136 96 [some (.ref l0), none] [] w = (am_gf w l0 8 0).bind fun v => am_run 136 100 [some (.ref l0), none] (v :: []) w := by
  refine (bu (ls'' := [some (.ref l0), none]) (st' := [.ref l0]) bf136_96 bf136_97 rfl rfl).trans ?_
  exact bh bf136_97 bf136_100 rfl (fun _ _ => am_ge_rf w) rfl
theorem bk136_108 {w : am_Wd} {l0 : Nat} : am_run 136 108 [some (.ref l0), none] [] w = (am_gf w l0 8 0).bind fun v => am_run 136 112 [none, none] (v :: []) w := by
  refine (bu (ls'' := [none, none]) (st' := [.ref l0]) bf136_108 bf136_109 rfl rfl).trans ?_
  exact bh bf136_109 bf136_112 rfl (fun _ _ => am_ge_rf w) rfl
theorem bk136_119 {w : am_Wd} {l0 : Nat} : am_run 136 119 [some (.ref l0), none] [] w = (am_gf w l0 8 0).bind fun v => am_run 136 123 [none, none] (v :: []) w := by
  refine (bu (ls'' := [none, none]) (st' := [.ref l0]) bf136_119 bf136_120 rfl rfl).trans ?_
  exact bh bf136_120 bf136_123 rfl (fun _ _ => am_ge_rf w) rfl
theorem bk136_130 {w : am_Wd} {l0 : Nat} : am_run 136 130 [some (.ref l0), none] [] w = (am_gf w l0 8 2).bind fun v => am_run 136 134 [none, none] (v :: []) w := by
  refine (bu (ls'' := [none, none]) (st' := [.ref l0]) bf136_130 bf136_131 rfl rfl).trans ?_
  exact bh bf136_131 bf136_134 rfl (fun _ _ => am_ge_rf w) rfl
theorem bk136_135 {w : am_Wd} {l0 : Nat} : am_run 136 135 [some (.ref l0), none] [] w = (am_gf w l0 8 5).bind fun v => am_run 136 139 [none, none] (v :: []) w := by
  refine (bu (ls'' := [none, none]) (st' := [.ref l0]) bf136_135 bf136_136 rfl rfl).trans ?_
  exact bh bf136_136 bf136_139 rfl (fun _ _ => am_ge_rf w) rfl
theorem bk136_140 {w : am_Wd} {l0 : Nat} : am_run 136 140 [some (.ref l0), none] [] w = (am_gf w l0 8 6).bind fun v => am_run 136 144 [none, none] (v :: []) w := by
  refine (bu (ls'' := [none, none]) (st' := [.ref l0]) bf136_140 bf136_141 rfl rfl).trans ?_
  exact bh bf136_141 bf136_144 rfl (fun _ _ => am_ge_rf w) rfl
theorem bk136_145 {w : am_Wd} {l0 : Nat} : am_run 136 145 [some (.ref l0), none] [] w = (am_gf w l0 8 7).bind fun v => am_run 136 149 [none, none] (v :: []) w := by
  refine (bu (ls'' := [none, none]) (st' := [.ref l0]) bf136_145 bf136_146 rfl rfl).trans ?_
  exact bh bf136_146 bf136_149 rfl (fun _ _ => am_ge_rf w) rfl
theorem bk136_150 {w : am_Wd} {l0 : Nat} : am_run 136 150 [some (.ref l0), none] [] w = (am_gf w l0 8 8).bind fun v => am_run 136 154 [none, none] (v :: []) w := by
  refine (bu (ls'' := [none, none]) (st' := [.ref l0]) bf136_150 bf136_151 rfl rfl).trans ?_
  exact bh bf136_151 bf136_154 rfl (fun _ _ => am_ge_rf w) rfl
theorem bk136_72 {w : am_Wd} {s0 : Int32} : am_run 136 72 [none, none] [.int s0] w = some (.inl (some (.int s0)), w) := by
  exact am_e2 bf136_72 rfl (am_ge_rf w)
theorem bk136_77 {w : am_Wd} {s0 : Int32} : am_run 136 77 [none, none] [.int s0] w = some (.inl (some (.int s0)), w) := by
  exact am_e2 bf136_77 rfl (am_ge_rf w)
theorem bk136_82 {w : am_Wd} {s0 : Nat} : am_run 136 82 [none, none] [.ref s0] w = (am_kf w s0 5).bind fun _ => (am_x 10 [.ref s0, .int (nI 1)] w).bind fun r => bct r fun v w' => am_run 136 86 [none, none] (v.toList ++ []) w' := by
  refine (bu (ls'' := [none, none]) (st' := [.int (nI 1), .ref s0]) bf136_82 bf136_83 rfl rfl).trans ?_
  exact bkV bf136_83 bf136_86 rfl (by decide +kernel) (Nat.le_of_ble_eq_true rfl) rfl (bhd rfl)
theorem bk136_91 {w : am_Wd} {s0 : Nat} : am_run 136 91 [none, none] [.ref s0] w = (am_kf w s0 5).bind fun _ => (am_x 10 [.ref s0, .int (nI 2)] w).bind fun r => bct r fun v w' => am_run 136 95 [none, none] (v.toList ++ []) w' := by
  refine (bu (ls'' := [none, none]) (st' := [.int (nI 2), .ref s0]) bf136_91 bf136_92 rfl rfl).trans ?_
  exact bkV bf136_92 bf136_95 rfl (by decide +kernel) (Nat.le_of_ble_eq_true rfl) rfl (bhd rfl)
theorem bk136_100 {w : am_Wd} {l0 : Nat} {s0 : Nat} : am_run 136 100 [some (.ref l0), none] [.ref s0] w = (am_kf w l0 8).bind fun _ => (am_x 33 [.ref l0] w).bind fun r => bct r fun v w' => am_run 136 104 [none, none] (v.toList ++ [.ref s0]) w' := by
  refine (bu (ls'' := [none, none]) (st' := [.ref l0, .ref s0]) bf136_100 bf136_101 rfl rfl).trans ?_
  exact bkV bf136_101 bf136_104 rfl (by decide +kernel) (Nat.le_of_ble_eq_true rfl) rfl (bhd rfl)
theorem bk136_112 {w : am_Wd} {s0 : Nat} : am_run 136 112 [none, none] [.ref s0] w = (am_gf w s0 5 2).bind fun v => am_run 136 115 [none, none] (v :: []) w := by
  exact bh bf136_112 bf136_115 rfl (fun _ _ => am_ge_rf w) rfl
theorem bk136_123 {w : am_Wd} {s0 : Nat} : am_run 136 123 [none, none] [.ref s0] w = (am_gf w s0 5 3).bind fun v => am_run 136 126 [none, none] (v :: []) w := by
  exact bh bf136_123 bf136_126 rfl (fun _ _ => am_ge_rf w) rfl
theorem bk136_134 {w : am_Wd} {s0 : Int32} : am_run 136 134 [none, none] [.int s0] w = some (.inl (some (.int s0)), w) := by
  exact am_e2 bf136_134 rfl (am_ge_rf w)
theorem bk136_139 {w : am_Wd} {s0 : Int32} : am_run 136 139 [none, none] [.int s0] w = some (.inl (some (.int s0)), w) := by
  exact am_e2 bf136_139 rfl (am_ge_rf w)
theorem bk136_144 {w : am_Wd} {s0 : Int32} : am_run 136 144 [none, none] [.int s0] w = some (.inl (some (.int s0)), w) := by
  exact am_e2 bf136_144 rfl (am_ge_rf w)
theorem bk136_149 {w : am_Wd} {s0 : Int32} : am_run 136 149 [none, none] [.int s0] w = some (.inl (some (.int s0)), w) := by
  exact am_e2 bf136_149 rfl (am_ge_rf w)
theorem bk136_154 {w : am_Wd} {s0 : Int32} : am_run 136 154 [none, none] [.int s0] w = some (.inl (some (.int s0)), w) := by
  exact am_e2 bf136_154 rfl (am_ge_rf w)
theorem bk136_86 {w : am_Wd} {s0 : Int32} : am_run 136 86 [none, none] [.int s0] w = some (.inl (some (.int s0)), w) := by
  exact am_e2 bf136_86 rfl (am_ge_rf w)
theorem bk136_95 {w : am_Wd} {s0 : Int32} : am_run 136 95 [none, none] [.int s0] w = some (.inl (some (.int s0)), w) := by
  exact am_e2 bf136_95 rfl (am_ge_rf w)
theorem bk136_104 {w : am_Wd} {s0 : Int32} {s1 : Nat} : am_run 136 104 [none, none] [.int s0, .ref s1] w = (am_kf w s1 5).bind fun _ => (am_x 77 [.ref s1, .int s0] w).bind fun r => bct r fun v w' => am_run 136 107 [none, none] (v.toList ++ []) w' := by
  exact bkV bf136_104 bf136_107 rfl (by decide +kernel) (Nat.le_of_ble_eq_true rfl) rfl (bhd rfl)
theorem bk136_115 {w : am_Wd} {s0 : Int64} : am_run 136 115 [none, none] [.long s0] w = (am_x 50 [.long s0] w).bind fun r => bct r fun v w' => am_run 136 118 [none, none] (v.toList ++ []) w' := by
  exact bkS bf136_115 bf136_118 rfl (by decide +kernel) (Nat.le_of_ble_eq_true rfl) rfl (bhd rfl)
theorem bk136_126 {w : am_Wd} {s0 : Int64} : am_run 136 126 [none, none] [.long s0] w = (am_x 50 [.long s0] w).bind fun r => bct r fun v w' => am_run 136 129 [none, none] (v.toList ++ []) w' := by
  exact bkS bf136_126 bf136_129 rfl (by decide +kernel) (Nat.le_of_ble_eq_true rfl) rfl (bhd rfl)
theorem bk136_107 {w : am_Wd} {s0 : Int32} : am_run 136 107 [none, none] [.int s0] w = some (.inl (some (.int s0)), w) := by
  exact am_e2 bf136_107 rfl (am_ge_rf w)
theorem bk136_118 {w : am_Wd} {s0 : Int32} : am_run 136 118 [none, none] [.int s0] w = some (.inl (some (.int s0)), w) := by
  exact am_e2 bf136_118 rfl (am_ge_rf w)
theorem bk136_129 {w : am_Wd} {s0 : Int32} : am_run 136 129 [none, none] [.int s0] w = some (.inl (some (.int s0)), w) := by
  exact am_e2 bf136_129 rfl (am_ge_rf w)
theorem bf137_0 : am_fetch (am_mth 137) 0 = some (.aload_n 0, 1, [], [4]) := by decide +kernel
theorem bf137_1 : am_fetch (am_mth 137) 1 = some (.iload_n 1, 1, [], [0, 4]) := by decide +kernel
theorem bf137_2 : am_fetch (am_mth 137) 2 = some (.invokevirtual 89, 3, [0, 31, 1, 8, 352, 354, 4, 46], [0, 1, 4]) := by decide +kernel
theorem bf137_5 : am_fetch (am_mth 137) 5 = some (.astore 4, 2, [], [0, 1, 4]) := by decide +kernel
theorem bf137_7 : am_fetch (am_mth 137) 7 = some (.iload_n 2, 1, [], [0, 1]) := by decide +kernel
theorem bf137_8 : am_fetch (am_mth 137) 8 = some (.invokestatic 26, 3, [0, 29, 1, 311, 312, 46], [0, 1]) := by decide +kernel
theorem bf137_11 : am_fetch (am_mth 137) 11 = some (.iload_n 3, 1, [], [0, 1]) := by decide +kernel
theorem bf137_12 : am_fetch (am_mth 137) 12 = some (.invokestatic 30, 3, [0, 30, 1, 330, 331, 46], [0, 1]) := by decide +kernel
theorem bf137_15 : am_fetch (am_mth 137) 15 = some (.aload 4, 2, [], [0, 1]) := by decide +kernel
theorem bf137_17 : am_fetch (am_mth 137) 17 = some (.getfield 179, 3, [1, 6, 1, 613], [0, 1, 4]) := by decide +kernel
theorem bf137_20 : am_fetch (am_mth 137) 20 = some (.iload_n 2, 1, [], [0, 1, 4]) := by decide +kernel
theorem bf137_21 : am_fetch (am_mth 137) 21 = some (.iload_n 3, 1, [], [0, 1, 2, 4]) := by decide +kernel
theorem bf137_22 : am_fetch (am_mth 137) 22 = some (.invokevirtual 246, 3, [0, 81, 2, 7, 477, 174, 175, 64], [0, 1, 2, 3, 4]) := by decide +kernel
theorem bf137_25 : am_fetch (am_mth 137) 25 = some (.ireturn, 1, [0], [0, 1, 2, 3, 4]) := by decide +kernel
theorem bk137_0 {w : am_Wd} {l0 : Nat} {l1 : Int32} {l2 : Int32} {l3 : Int32} : am_run 137 0 [some (.ref l0), some (.int l1), some (.int l2), some (.int l3), none] [] w = (am_kf w l0 8).bind fun _ => (am_x 31 [.ref l0, .int l1] w).bind fun r => bct r fun v w' => am_run 137 5 [none, none, some (.int l2), some (.int l3), none] (v.toList ++ []) w' := by
  refine (bu (ls'' := [none, some (.int l1), some (.int l2), some (.int l3), none]) (st' := [.ref l0]) bf137_0 bf137_1 rfl rfl).trans ?_
  refine (bu (ls'' := [none, none, some (.int l2), some (.int l3), none]) (st' := [.int l1, .ref l0]) bf137_1 bf137_2 rfl rfl).trans ?_
  exact bkV bf137_2 bf137_5 rfl (by decide +kernel) (Nat.le_of_ble_eq_true rfl) rfl (bhd rfl)
theorem bk137_5 {w : am_Wd} {l2 : Int32} {l3 : Int32} {s0 : Nat} : am_run 137 5 [none, none, some (.int l2), some (.int l3), none] [.ref s0] w = (am_x 29 [.int l2] w).bind fun r => bct r fun v w' => am_run 137 11 [none, none, some (.int l2), some (.int l3), some (.ref s0)] (v.toList ++ []) w' := by
  refine (bu (ls'' := [none, none, some (.int l2), some (.int l3), some (.ref s0)]) (st' := []) bf137_5 bf137_7 rfl rfl).trans ?_
  refine (bu (ls'' := [none, none, some (.int l2), some (.int l3), some (.ref s0)]) (st' := [.int l2]) bf137_7 bf137_8 rfl rfl).trans ?_
  exact bkS bf137_8 bf137_11 rfl (by decide +kernel) (Nat.le_of_ble_eq_true rfl) rfl (bhd rfl)
theorem bk137_11 {w : am_Wd} {l2 : Int32} {l3 : Int32} {l4 : Nat} : am_run 137 11 [none, none, some (.int l2), some (.int l3), some (.ref l4)] [] w = (am_x 30 [.int l3] w).bind fun r => bct r fun v w' => am_run 137 15 [none, none, some (.int l2), some (.int l3), some (.ref l4)] (v.toList ++ []) w' := by
  refine (bu (ls'' := [none, none, some (.int l2), some (.int l3), some (.ref l4)]) (st' := [.int l3]) bf137_11 bf137_12 rfl rfl).trans ?_
  exact bkS bf137_12 bf137_15 rfl (by decide +kernel) (Nat.le_of_ble_eq_true rfl) rfl (bhd rfl)
theorem bk137_15 {w : am_Wd} {l2 : Int32} {l3 : Int32} {l4 : Nat} : am_run 137 15 [none, none, some (.int l2), some (.int l3), some (.ref l4)] [] w = (am_gf w l4 6 1).bind fun v => am_run 137 20 [none, none, some (.int l2), some (.int l3), none] (v :: []) w := by
  refine (bu (ls'' := [none, none, some (.int l2), some (.int l3), none]) (st' := [.ref l4]) bf137_15 bf137_17 rfl rfl).trans ?_
  exact bh bf137_17 bf137_20 rfl (fun _ _ => am_ge_rf w) rfl
theorem bk137_20 {w : am_Wd} {l2 : Int32} {l3 : Int32} {s0 : Nat} : am_run 137 20 [none, none, some (.int l2), some (.int l3), none] [.ref s0] w = (am_kf w s0 7).bind fun _ => (am_x 81 [.ref s0, .int l2, .int l3] w).bind fun r => bct r fun v w' => am_run 137 25 [none, none, none, none, none] (v.toList ++ []) w' := by
  refine (bu (ls'' := [none, none, none, some (.int l3), none]) (st' := [.int l2, .ref s0]) bf137_20 bf137_21 rfl rfl).trans ?_
  refine (bu (ls'' := [none, none, none, none, none]) (st' := [.int l3, .int l2, .ref s0]) bf137_21 bf137_22 rfl rfl).trans ?_
  exact bkV bf137_22 bf137_25 rfl (by decide +kernel) (Nat.le_of_ble_eq_true rfl) rfl (bhd rfl)
theorem bk137_25 {w : am_Wd} {s0 : Int32} : am_run 137 25 [none, none, none, none, none] [.int s0] w = some (.inl (some (.int s0)), w) := by
  exact am_e2 bf137_25 rfl (am_ge_rf w)
theorem bf138_0 : am_fetch (am_mth 138) 0 = some (.aload_n 0, 1, [], [3]) := by decide +kernel
theorem bf138_1 : am_fetch (am_mth 138) 1 = some (.iload_n 1, 1, [], [0, 3]) := by decide +kernel
theorem bf138_2 : am_fetch (am_mth 138) 2 = some (.invokevirtual 89, 3, [0, 31, 1, 8, 352, 354, 4, 46], [0, 1, 3]) := by decide +kernel
theorem bf138_5 : am_fetch (am_mth 138) 5 = some (.astore_n 3, 1, [], [0, 1, 3]) := by decide +kernel
theorem bf138_6 : am_fetch (am_mth 138) 6 = some (.iload_n 2, 1, [], [0, 1]) := by decide +kernel
theorem bf138_7 : am_fetch (am_mth 138) 7 = some (.ifCond .lt 10, 3, [], [0, 1]) := by decide +kernel
theorem bf138_10 : am_fetch (am_mth 138) 10 = some (.iload_n 2, 1, [], [0, 1]) := by decide +kernel
theorem bf138_11 : am_fetch (am_mth 138) 11 = some (.sipush 144, 3, [], [0, 1]) := by decide +kernel
theorem bf138_14 : am_fetch (am_mth 138) 14 = some (.if_icmp .lt 13, 3, [], [0, 1]) := by decide +kernel
theorem bf138_17 : am_fetch (am_mth 138) 17 = some (.new 223, 3, [1, 0, 314, 56, 1111, 249, 227], [0, 1, 2, 3]) := by decide +kernel
theorem bf138_20 : am_fetch (am_mth 138) 20 = some (.dup, 1, [], [0, 1, 2, 3]) := by decide +kernel
theorem bf138_21 : am_fetch (am_mth 138) 21 = some (.ldc 249, 2, [1, 16, 1111], [0, 1, 2, 3]) := by decide +kernel
theorem bf138_23 : am_fetch (am_mth 138) 23 = some (.invokespecial 227, 3, [], [0, 1, 2, 3]) := by decide +kernel
theorem bf138_26 : am_fetch (am_mth 138) 26 = some (.athrow, 1, [], [0, 1, 2, 3]) := by decide +kernel
theorem bf138_27 : am_fetch (am_mth 138) 27 = some (.aload_n 3, 1, [], [0, 1]) := by decide +kernel
theorem bf138_28 : am_fetch (am_mth 138) 28 = some (.getfield 133, 3, [1, 6, 2, 615], [0, 1, 3]) := by decide +kernel
theorem bf138_31 : am_fetch (am_mth 138) 31 = some (.iload_n 2, 1, [], [0, 1, 3]) := by decide +kernel
theorem bf138_32 : am_fetch (am_mth 138) 32 = some (.invokevirtual 251, 3, [0, 73, 1, 4, 1112, 1113, 1114, 65], [0, 1, 2, 3]) := by decide +kernel
theorem bf138_35 : am_fetch (am_mth 138) 35 = some (.ireturn, 1, [1], [0, 1, 2, 3]) := by decide +kernel
theorem bk138_0 {w : am_Wd} {l0 : Nat} {l1 : Int32} {l2 : Int32} : am_run 138 0 [some (.ref l0), some (.int l1), some (.int l2), none] [] w = (am_kf w l0 8).bind fun _ => (am_x 31 [.ref l0, .int l1] w).bind fun r => bct r fun v w' => am_run 138 5 [none, none, some (.int l2), none] (v.toList ++ []) w' := by
  refine (bu (ls'' := [none, some (.int l1), some (.int l2), none]) (st' := [.ref l0]) bf138_0 bf138_1 rfl rfl).trans ?_
  refine (bu (ls'' := [none, none, some (.int l2), none]) (st' := [.int l1, .ref l0]) bf138_1 bf138_2 rfl rfl).trans ?_
  exact bkV bf138_2 bf138_5 rfl (by decide +kernel) (Nat.le_of_ble_eq_true rfl) rfl (bhd rfl)
theorem bk138_5 {w : am_Wd} {l2 : Int32} {s0 : Nat} : am_run 138 5 [none, none, some (.int l2), none] [.ref s0] w = if l2 < nI 0 then am_run 138 17 [none, none, none, none] [] w else am_run 138 10 [none, none, some (.int l2), some (.ref s0)] [] w := by
  refine (bu (ls'' := [none, none, some (.int l2), some (.ref s0)]) (st' := []) bf138_5 bf138_6 rfl rfl).trans ?_
  refine (bu (ls'' := [none, none, some (.int l2), some (.ref s0)]) (st' := [.int l2]) bf138_6 bf138_7 rfl rfl).trans ?_
  exact bifc bf138_7 rfl bf138_17 bf138_10 rfl rfl rfl
theorem bk138_17 {w : am_Wd}  : am_run 138 17 [none, none, none, none] [] w = some (.inr (am_xn 0), am_jk w 1 6) := by
  exact am_e2 bf138_17 rfl (am_ge_jk _ _ _)
theorem bk138_10 {w : am_Wd} {l2 : Int32} {l3 : Nat} : am_run 138 10 [none, none, some (.int l2), some (.ref l3)] [] w = if l2 < (nI 144) then am_run 138 27 [none, none, some (.int l2), some (.ref l3)] [] w else am_run 138 17 [none, none, none, none] [] w := by
  refine (bu (ls'' := [none, none, some (.int l2), some (.ref l3)]) (st' := [.int l2]) bf138_10 bf138_11 rfl rfl).trans ?_
  refine (bu (ls'' := [none, none, some (.int l2), some (.ref l3)]) (st' := [.int (nI 144), .int l2]) bf138_11 bf138_14 rfl rfl).trans ?_
  exact bic bf138_14 rfl bf138_27 bf138_17 rfl rfl rfl
theorem bk138_27 {w : am_Wd} {l2 : Int32} {l3 : Nat} : am_run 138 27 [none, none, some (.int l2), some (.ref l3)] [] w = (am_gf w l3 6 2).bind fun v => am_run 138 31 [none, none, some (.int l2), none] (v :: []) w := by
  refine (bu (ls'' := [none, none, some (.int l2), none]) (st' := [.ref l3]) bf138_27 bf138_28 rfl rfl).trans ?_
  exact bh bf138_28 bf138_31 rfl (fun _ _ => am_ge_rf w) rfl
theorem bk138_31 {w : am_Wd} {l2 : Int32} {s0 : Nat} : am_run 138 31 [none, none, some (.int l2), none] [.ref s0] w = (am_kf w s0 4).bind fun _ => (am_x 73 [.ref s0, .int l2] w).bind fun r => bct r fun v w' => am_run 138 35 [none, none, none, none] (v.toList ++ []) w' := by
  refine (bu (ls'' := [none, none, none, none]) (st' := [.int l2, .ref s0]) bf138_31 bf138_32 rfl rfl).trans ?_
  exact bkV bf138_32 bf138_35 rfl (by decide +kernel) (Nat.le_of_ble_eq_true rfl) rfl (bhd rfl)
theorem bk138_35 {w : am_Wd} {s0 : Int32} (hb : am_ok (am_rt 1) (.int s0) = true) : am_run 138 35 [none, none, none, none] [.int s0] w = some (.inl (some (.int s0)), w) := by
  exact am_e2 bf138_35 (by unfold am_stp; exact if_pos ⟨by decide, hb⟩) (am_ge_rf w)
theorem bf139_0 : am_fetch (am_mth 139) 0 = some (.aload_n 0, 1, [], [3]) := by decide +kernel
theorem bf139_1 : am_fetch (am_mth 139) 1 = some (.iload_n 1, 1, [], [0, 3]) := by decide +kernel
theorem bf139_2 : am_fetch (am_mth 139) 2 = some (.invokevirtual 89, 3, [0, 31, 1, 8, 352, 354, 4, 46], [0, 1, 3]) := by decide +kernel
theorem bf139_5 : am_fetch (am_mth 139) 5 = some (.astore_n 3, 1, [], [0, 1, 3]) := by decide +kernel
theorem bf139_6 : am_fetch (am_mth 139) 6 = some (.iload_n 2, 1, [], [0, 1]) := by decide +kernel
theorem bf139_7 : am_fetch (am_mth 139) 7 = some (.iconst 0, 1, [], [0, 1]) := by decide +kernel
theorem bf139_8 : am_fetch (am_mth 139) 8 = some (.iconst 3, 1, [], [0, 1]) := by decide +kernel
theorem bf139_9 : am_fetch (am_mth 139) 9 = some (.invokestatic 43, 3, [0, 92, 3, 220, 221, 46], [0, 1]) := by decide +kernel
theorem bf139_12 : am_fetch (am_mth 139) 12 = some (.aload_n 3, 1, [], [0, 1]) := by decide +kernel
theorem bf139_13 : am_fetch (am_mth 139) 13 = some (.getfield 133, 3, [1, 6, 2, 615], [0, 1, 3]) := by decide +kernel
theorem bf139_16 : am_fetch (am_mth 139) 16 = some (.getfield 255, 3, [1, 4, 0, 597], [0, 1, 3]) := by decide +kernel
theorem bf139_19 : am_fetch (am_mth 139) 19 = some (.iload_n 2, 1, [], [0, 1, 3]) := by decide +kernel
theorem bf139_20 : am_fetch (am_mth 139) 20 = some (.laload, 1, [], [0, 1, 2, 3]) := by decide +kernel
theorem bf139_21 : am_fetch (am_mth 139) 21 = some (.lreturn, 1, [], [0, 1, 2, 3]) := by decide +kernel
theorem bk139_0 {w : am_Wd} {l0 : Nat} {l1 : Int32} {l2 : Int32} : am_run 139 0 [some (.ref l0), some (.int l1), some (.int l2), none] [] w = (am_kf w l0 8).bind fun _ => (am_x 31 [.ref l0, .int l1] w).bind fun r => bct r fun v w' => am_run 139 5 [none, none, some (.int l2), none] (v.toList ++ []) w' := by
  refine (bu (ls'' := [none, some (.int l1), some (.int l2), none]) (st' := [.ref l0]) bf139_0 bf139_1 rfl rfl).trans ?_
  refine (bu (ls'' := [none, none, some (.int l2), none]) (st' := [.int l1, .ref l0]) bf139_1 bf139_2 rfl rfl).trans ?_
  exact bkV bf139_2 bf139_5 rfl (by decide +kernel) (Nat.le_of_ble_eq_true rfl) rfl (bhd rfl)
theorem bk139_5 {w : am_Wd} {l2 : Int32} {s0 : Nat} : am_run 139 5 [none, none, some (.int l2), none] [.ref s0] w = (am_x 92 [.int l2, .int (nI 0), .int (nI 3)] w).bind fun r => bct r fun v w' => am_run 139 12 [none, none, some (.int l2), some (.ref s0)] (v.toList ++ []) w' := by
  refine (bu (ls'' := [none, none, some (.int l2), some (.ref s0)]) (st' := []) bf139_5 bf139_6 rfl rfl).trans ?_
  refine (bu (ls'' := [none, none, some (.int l2), some (.ref s0)]) (st' := [.int l2]) bf139_6 bf139_7 rfl rfl).trans ?_
  refine (bu (ls'' := [none, none, some (.int l2), some (.ref s0)]) (st' := [.int (nI 0), .int l2]) bf139_7 bf139_8 rfl rfl).trans ?_
  refine (bu (ls'' := [none, none, some (.int l2), some (.ref s0)]) (st' := [.int (nI 3), .int (nI 0), .int l2]) bf139_8 bf139_9 rfl rfl).trans ?_
  exact bkS bf139_9 bf139_12 rfl (by decide +kernel) (Nat.le_of_ble_eq_true rfl) rfl (bhd rfl)
theorem bk139_12 {w : am_Wd} {l2 : Int32} {l3 : Nat} : am_run 139 12 [none, none, some (.int l2), some (.ref l3)] [] w = (am_gf w l3 6 2).bind fun v => am_run 139 16 [none, none, some (.int l2), none] (v :: []) w := by
  refine (bu (ls'' := [none, none, some (.int l2), none]) (st' := [.ref l3]) bf139_12 bf139_13 rfl rfl).trans ?_
  exact bh bf139_13 bf139_16 rfl (fun _ _ => am_ge_rf w) rfl
theorem bk139_16 {w : am_Wd} {l2 : Int32} {s0 : Nat} : am_run 139 16 [none, none, some (.int l2), none] [.ref s0] w = (am_gf w s0 4 0).bind fun v => am_run 139 19 [none, none, some (.int l2), none] (v :: []) w := by
  exact bh bf139_16 bf139_19 rfl (fun _ _ => am_ge_rf w) rfl
theorem bk139_19 {w : am_Wd} {l2 : Int32} {s0 : Nat} : am_run 139 19 [none, none, some (.int l2), none] [.ref s0] w = (am_rl w s0 l2).bind fun v => am_run 139 21 [none, none, none, none] (.long v :: []) w := by
  refine (bu (ls'' := [none, none, none, none]) (st' := [.int l2, .ref s0]) bf139_19 bf139_20 rfl rfl).trans ?_
  exact bh bf139_20 bf139_21 rfl (fun _ _ => am_ge_rf w) rfl
theorem bk139_21 {w : am_Wd} {s0 : Int64} : am_run 139 21 [none, none, none, none] [.long s0] w = some (.inl (some (.long s0)), w) := by
  exact am_e2 bf139_21 rfl (am_ge_rf w)
theorem bf140_0 : am_fetch (am_mth 140) 0 = some (.aload_n 0, 1, [], [4]) := by decide +kernel
theorem bf140_1 : am_fetch (am_mth 140) 1 = some (.iload_n 1, 1, [], [0, 4]) := by decide +kernel
theorem bf140_2 : am_fetch (am_mth 140) 2 = some (.invokevirtual 89, 3, [0, 31, 1, 8, 352, 354, 4, 46], [0, 1, 4]) := by decide +kernel
theorem bf140_5 : am_fetch (am_mth 140) 5 = some (.astore 4, 2, [], [0, 1, 4]) := by decide +kernel
theorem bf140_7 : am_fetch (am_mth 140) 7 = some (.iload_n 2, 1, [], [0, 1]) := by decide +kernel
theorem bf140_8 : am_fetch (am_mth 140) 8 = some (.invokestatic 26, 3, [0, 29, 1, 311, 312, 46], [0, 1]) := by decide +kernel
theorem bf140_11 : am_fetch (am_mth 140) 11 = some (.iload_n 3, 1, [], [0, 1]) := by decide +kernel
theorem bf140_12 : am_fetch (am_mth 140) 12 = some (.invokestatic 26, 3, [0, 29, 1, 311, 312, 46], [0, 1]) := by decide +kernel
theorem bf140_15 : am_fetch (am_mth 140) 15 = some (.aload 4, 2, [], [0, 1]) := by decide +kernel
theorem bf140_17 : am_fetch (am_mth 140) 17 = some (.getfield 179, 3, [1, 6, 1, 613], [0, 1, 4]) := by decide +kernel
theorem bf140_20 : am_fetch (am_mth 140) 20 = some (.iload_n 2, 1, [], [0, 1, 4]) := by decide +kernel
theorem bf140_21 : am_fetch (am_mth 140) 21 = some (.iload_n 3, 1, [], [0, 1, 2, 4]) := by decide +kernel
theorem bf140_22 : am_fetch (am_mth 140) 22 = some (.invokevirtual 259, 3, [0, 87, 2, 7, 1127, 387, 388, 64], [0, 1, 2, 3, 4]) := by decide +kernel
theorem bf140_25 : am_fetch (am_mth 140) 25 = some (.ireturn, 1, [0], [0, 1, 2, 3, 4]) := by decide +kernel
theorem bk140_0 {w : am_Wd} {l0 : Nat} {l1 : Int32} {l2 : Int32} {l3 : Int32} : am_run 140 0 [some (.ref l0), some (.int l1), some (.int l2), some (.int l3), none] [] w = (am_kf w l0 8).bind fun _ => (am_x 31 [.ref l0, .int l1] w).bind fun r => bct r fun v w' => am_run 140 5 [none, none, some (.int l2), some (.int l3), none] (v.toList ++ []) w' := by
  refine (bu (ls'' := [none, some (.int l1), some (.int l2), some (.int l3), none]) (st' := [.ref l0]) bf140_0 bf140_1 rfl rfl).trans ?_
  refine (bu (ls'' := [none, none, some (.int l2), some (.int l3), none]) (st' := [.int l1, .ref l0]) bf140_1 bf140_2 rfl rfl).trans ?_
  exact bkV bf140_2 bf140_5 rfl (by decide +kernel) (Nat.le_of_ble_eq_true rfl) rfl (bhd rfl)
theorem bk140_5 {w : am_Wd} {l2 : Int32} {l3 : Int32} {s0 : Nat} : am_run 140 5 [none, none, some (.int l2), some (.int l3), none] [.ref s0] w = (am_x 29 [.int l2] w).bind fun r => bct r fun v w' => am_run 140 11 [none, none, some (.int l2), some (.int l3), some (.ref s0)] (v.toList ++ []) w' := by
  refine (bu (ls'' := [none, none, some (.int l2), some (.int l3), some (.ref s0)]) (st' := []) bf140_5 bf140_7 rfl rfl).trans ?_
  refine (bu (ls'' := [none, none, some (.int l2), some (.int l3), some (.ref s0)]) (st' := [.int l2]) bf140_7 bf140_8 rfl rfl).trans ?_
  exact bkS bf140_8 bf140_11 rfl (by decide +kernel) (Nat.le_of_ble_eq_true rfl) rfl (bhd rfl)
theorem bk140_11 {w : am_Wd} {l2 : Int32} {l3 : Int32} {l4 : Nat} : am_run 140 11 [none, none, some (.int l2), some (.int l3), some (.ref l4)] [] w = (am_x 29 [.int l3] w).bind fun r => bct r fun v w' => am_run 140 15 [none, none, some (.int l2), some (.int l3), some (.ref l4)] (v.toList ++ []) w' := by
  refine (bu (ls'' := [none, none, some (.int l2), some (.int l3), some (.ref l4)]) (st' := [.int l3]) bf140_11 bf140_12 rfl rfl).trans ?_
  exact bkS bf140_12 bf140_15 rfl (by decide +kernel) (Nat.le_of_ble_eq_true rfl) rfl (bhd rfl)
theorem bk140_15 {w : am_Wd} {l2 : Int32} {l3 : Int32} {l4 : Nat} : am_run 140 15 [none, none, some (.int l2), some (.int l3), some (.ref l4)] [] w = (am_gf w l4 6 1).bind fun v => am_run 140 20 [none, none, some (.int l2), some (.int l3), none] (v :: []) w := by
  refine (bu (ls'' := [none, none, some (.int l2), some (.int l3), none]) (st' := [.ref l4]) bf140_15 bf140_17 rfl rfl).trans ?_
  exact bh bf140_17 bf140_20 rfl (fun _ _ => am_ge_rf w) rfl
theorem bk140_20 {w : am_Wd} {l2 : Int32} {l3 : Int32} {s0 : Nat} : am_run 140 20 [none, none, some (.int l2), some (.int l3), none] [.ref s0] w = (am_kf w s0 7).bind fun _ => (am_x 87 [.ref s0, .int l2, .int l3] w).bind fun r => bct r fun v w' => am_run 140 25 [none, none, none, none, none] (v.toList ++ []) w' := by
  refine (bu (ls'' := [none, none, none, some (.int l3), none]) (st' := [.int l2, .ref s0]) bf140_20 bf140_21 rfl rfl).trans ?_
  refine (bu (ls'' := [none, none, none, none, none]) (st' := [.int l3, .int l2, .ref s0]) bf140_21 bf140_22 rfl rfl).trans ?_
  exact bkV bf140_22 bf140_25 rfl (by decide +kernel) (Nat.le_of_ble_eq_true rfl) rfl (bhd rfl)
theorem bk140_25 {w : am_Wd} {s0 : Int32} : am_run 140 25 [none, none, none, none, none] [.int s0] w = some (.inl (some (.int s0)), w) := by
  exact am_e2 bf140_25 rfl (am_ge_rf w)
theorem bf141_0 : am_fetch (am_mth 141) 0 = some (.aload_n 0, 1, [], []) := by decide +kernel
theorem bf141_1 : am_fetch (am_mth 141) 1 = some (.getfield 10, 3, [0, 8, 0, 111], []) := by decide +kernel
theorem bf141_4 : am_fetch (am_mth 141) 4 = some (.getfield 217, 3, [1, 5, 2, 96], []) := by decide +kernel
theorem bf141_7 : am_fetch (am_mth 141) 7 = some (.aload_n 1, 1, [], []) := by decide +kernel
theorem bf141_8 : am_fetch (am_mth 141) 8 = some (.invokevirtual 103, 3, [0, 17, 0, 6, 667, 668, 669, 63], []) := by decide +kernel
theorem bf141_11 : am_fetch (am_mth 141) 11 = some (.invokestatic 361, 3, [0, 11, 2, 665, 178, 57], []) := by decide +kernel
theorem bf141_14 : am_fetch (am_mth 141) 14 = some (.ifCond .eq 25, 3, [], []) := by decide +kernel
theorem bf141_17 : am_fetch (am_mth 141) 17 = some (.aload_n 0, 1, [], []) := by decide +kernel
theorem bf141_18 : am_fetch (am_mth 141) 18 = some (.invokevirtual 365, 3, [0, 93, 0, 8, 679, 681, 12, 46], [0]) := by decide +kernel
theorem bf141_21 : am_fetch (am_mth 141) 21 = some (.iconst 3, 1, [], [0]) := by decide +kernel
theorem bf141_22 : am_fetch (am_mth 141) 22 = some (.irem, 1, [], [0]) := by decide +kernel
theorem bf141_23 : am_fetch (am_mth 141) 23 = some (.ifCond .ne 16, 3, [], [0]) := by decide +kernel
theorem bf141_26 : am_fetch (am_mth 141) 26 = some (.aload_n 1, 1, [], [0]) := by decide +kernel
theorem bf141_27 : am_fetch (am_mth 141) 27 = some (.dup, 1, [], [0, 1]) := by decide +kernel
theorem bf141_28 : am_fetch (am_mth 141) 28 = some (.getfield 368, 3, [1, 6, 8, 626], [0, 1]) := by decide +kernel
theorem bf141_31 : am_fetch (am_mth 141) 31 = some (.iconst 1, 1, [], [0, 1]) := by decide +kernel
theorem bf141_32 : am_fetch (am_mth 141) 32 = some (.iadd, 1, [], [0, 1]) := by decide +kernel
theorem bf141_33 : am_fetch (am_mth 141) 33 = some (.putfield 368, 3, [1, 6, 8, 626], [0, 1]) := by decide +kernel
theorem bf141_36 : am_fetch (am_mth 141) 36 = some (.goto 7, 3, [], [0, 1]) := by decide +kernel
theorem bf141_39 : am_fetch (am_mth 141) 39 = some (.aload_n 1, 1, [], [0]) := by decide +kernel
theorem bf141_40 : am_fetch (am_mth 141) 40 = some (.invokevirtual 371, 3, [0, 78, 0, 6, 684, 685, 686, 63], [0, 1]) := by decide +kernel
theorem bf141_43 : am_fetch (am_mth 141) 43 = some (.return_, 1, [], [0, 1]) := by decide +kernel
theorem bk141_0 {w : am_Wd} {l0 : Nat} {l1 : Nat} : am_run 141 0 [some (.ref l0), some (.ref l1)] [] w = (am_gf w l0 8 0).bind fun v => am_run 141 4 [some (.ref l0), some (.ref l1)] (v :: []) w := by
  refine (bu (ls'' := [some (.ref l0), some (.ref l1)]) (st' := [.ref l0]) bf141_0 bf141_1 rfl rfl).trans ?_
  exact bh bf141_1 bf141_4 rfl (fun _ _ => am_ge_rf w) rfl
theorem bk141_4 {w : am_Wd} {l0 : Nat} {l1 : Nat} {s0 : Nat} : am_run 141 4 [some (.ref l0), some (.ref l1)] [.ref s0] w = (am_gf w s0 5 2).bind fun v => am_run 141 7 [some (.ref l0), some (.ref l1)] (v :: []) w := by
  exact bh bf141_4 bf141_7 rfl (fun _ _ => am_ge_rf w) rfl
theorem bk141_7 {w : am_Wd} {l0 : Nat} {l1 : Nat} {s0 : Int64} : am_run 141 7 [some (.ref l0), some (.ref l1)] [.long s0] w = (am_kf w l1 6).bind fun _ => (am_x 17 [.ref l1] w).bind fun r => bct r fun v w' => am_run 141 11 [some (.ref l0), some (.ref l1)] (v.toList ++ [.long s0]) w' := by
  refine (bu (ls'' := [some (.ref l0), some (.ref l1)]) (st' := [.ref l1, .long s0]) bf141_7 bf141_8 rfl rfl).trans ?_
  exact bkV bf141_8 bf141_11 rfl (by decide +kernel) (Nat.le_of_ble_eq_true rfl) rfl (bhd rfl)
theorem bk141_11 {w : am_Wd} {l0 : Nat} {l1 : Nat} {s0 : Int32} {s1 : Int64} : am_run 141 11 [some (.ref l0), some (.ref l1)] [.int s0, .long s1] w = (am_x 11 [.long s1, .int s0] w).bind fun r => bct r fun v w' => am_run 141 14 [some (.ref l0), some (.ref l1)] (v.toList ++ []) w' := by
  exact bkS bf141_11 bf141_14 rfl (by decide +kernel) (Nat.le_of_ble_eq_true rfl) rfl (bhd rfl)
theorem bk141_14 {w : am_Wd} {l0 : Nat} {l1 : Nat} {s0 : Int32} : am_run 141 14 [some (.ref l0), some (.ref l1)] [.int s0] w = if s0 = nI 0 then am_run 141 39 [none, some (.ref l1)] [] w else am_run 141 17 [some (.ref l0), some (.ref l1)] [] w := by
  exact bifc bf141_14 rfl bf141_39 bf141_17 rfl rfl rfl
theorem bk141_39 {w : am_Wd} {l1 : Nat} : am_run 141 39 [none, some (.ref l1)] [] w = (am_kf w l1 6).bind fun _ => (am_x 78 [.ref l1] w).bind fun r => bct r fun v w' => am_run 141 43 [none, none] (v.toList ++ []) w' := by
  refine (bu (ls'' := [none, none]) (st' := [.ref l1]) bf141_39 bf141_40 rfl rfl).trans ?_
  exact bkV bf141_40 bf141_43 rfl (by decide +kernel) (Nat.le_of_ble_eq_true rfl) rfl (bhd rfl)
theorem bk141_17 {w : am_Wd} {l0 : Nat} {l1 : Nat} : am_run 141 17 [some (.ref l0), some (.ref l1)] [] w = (am_kf w l0 8).bind fun _ => (am_x 93 [.ref l0] w).bind fun r => bct r fun v w' => am_run 141 21 [none, some (.ref l1)] (v.toList ++ []) w' := by
  refine (bu (ls'' := [none, some (.ref l1)]) (st' := [.ref l0]) bf141_17 bf141_18 rfl rfl).trans ?_
  exact bkV bf141_18 bf141_21 rfl (by decide +kernel) (Nat.le_of_ble_eq_true rfl) rfl (bhd rfl)
theorem bk141_43 {w : am_Wd}  : am_run 141 43 [none, none] [] w = some (.inl none, w) := by
  exact am_e2 bf141_43 rfl (am_ge_rf w)
theorem bk141_21 {w : am_Wd} {l1 : Nat} {s0 : Int32} : am_run 141 21 [none, some (.ref l1)] [.int s0] w = if ¬ (bj_irem s0 (nI 3)) = nI 0 then am_run 141 39 [none, some (.ref l1)] [] w else am_run 141 26 [none, some (.ref l1)] [] w := by
  refine (bu (ls'' := [none, some (.ref l1)]) (st' := [.int (nI 3), .int s0]) bf141_21 bf141_22 rfl rfl).trans ?_
  refine (bu (ls'' := [none, some (.ref l1)]) (st' := [.int (bj_irem s0 (nI 3))]) bf141_22 bf141_23 rfl rfl).trans ?_
  exact bifc bf141_23 rfl bf141_39 bf141_26 rfl rfl rfl
theorem bk141_26 {w : am_Wd} {l1 : Nat} : am_run 141 26 [none, some (.ref l1)] [] w = (am_gf w l1 6 8).bind fun v => am_run 141 31 [none, none] (v :: [.ref l1]) w := by
  refine (bu (ls'' := [none, none]) (st' := [.ref l1]) bf141_26 bf141_27 rfl rfl).trans ?_
  refine (bu (ls'' := [none, none]) (st' := [.ref l1, .ref l1]) bf141_27 bf141_28 rfl rfl).trans ?_
  exact bh bf141_28 bf141_31 rfl (fun _ _ => am_ge_rf w) rfl
theorem bk141_31 {w : am_Wd} {s0 : Int32} {s1 : Nat} : am_run 141 31 [none, none] [.int s0, .ref s1] w = (am_pf w s1 6 8 (.int (s0 + (nI 1)))).bind fun w' => am_run 141 36 [none, none] [] w' := by
  refine (bu (ls'' := [none, none]) (st' := [.int (nI 1), .int s0, .ref s1]) bf141_31 bf141_32 rfl rfl).trans ?_
  refine (bu (ls'' := [none, none]) (st' := [.int (s0 + (nI 1)), .ref s1]) bf141_32 bf141_33 rfl rfl).trans ?_
  exact bh bf141_33 bf141_36 rfl (bge_pf) rfl
theorem bk141_36 {w : am_Wd}  : am_run 141 36 [none, none] [] w = am_run 141 43 [none, none] [] w := by
  refine (bu (ls'' := [none, none]) (st' := []) bf141_36 bf141_43 rfl rfl).trans ?_
  rfl
theorem bf142_0 : am_fetch (am_mth 142) 0 = some (.iload_n 1, 1, [], []) := by decide +kernel
theorem bf142_1 : am_fetch (am_mth 142) 1 = some (.ifCond .eq 8, 3, [], []) := by decide +kernel
theorem bf142_4 : am_fetch (am_mth 142) 4 = some (.iload_n 1, 1, [], []) := by decide +kernel
theorem bf142_5 : am_fetch (am_mth 142) 5 = some (.iconst 3, 1, [], []) := by decide +kernel
theorem bf142_6 : am_fetch (am_mth 142) 6 = some (.if_icmp .ne 11, 3, [], []) := by decide +kernel
theorem bf142_9 : am_fetch (am_mth 142) 9 = some (.iload_n 0, 1, [], []) := by decide +kernel
theorem bf142_10 : am_fetch (am_mth 142) 10 = some (.iload_n 1, 1, [], [0]) := by decide +kernel
theorem bf142_11 : am_fetch (am_mth 142) 11 = some (.invokestatic 50, 3, [0, 100, 2, 1259, 1260, 48], [0, 1]) := by decide +kernel
theorem bf142_14 : am_fetch (am_mth 142) 14 = some (.goto 4, 3, [], [0, 1]) := by decide +kernel
theorem bf142_17 : am_fetch (am_mth 142) 17 = some (.iload_n 0, 1, [], [1]) := by decide +kernel
theorem bf142_18 : am_fetch (am_mth 142) 18 = some (.ireturn, 1, [0], [0, 1]) := by decide +kernel
theorem bk142_0 {w : am_Wd} {l0 : Int32} {l1 : Int32} : am_run 142 0 [some (.int l0), some (.int l1)] [] w = if l1 = nI 0 then am_run 142 9 [some (.int l0), some (.int l1)] [] w else am_run 142 4 [some (.int l0), some (.int l1)] [] w := by
  refine (bu (ls'' := [some (.int l0), some (.int l1)]) (st' := [.int l1]) bf142_0 bf142_1 rfl rfl).trans ?_
  exact bifc bf142_1 rfl bf142_9 bf142_4 rfl rfl rfl
theorem bk142_9 {w : am_Wd} {l0 : Int32} {l1 : Int32} : am_run 142 9 [some (.int l0), some (.int l1)] [] w = (am_x 100 [.int l0, .int l1] w).bind fun r => bct r fun v w' => am_run 142 14 [none, none] (v.toList ++ []) w' := by
  refine (bu (ls'' := [none, some (.int l1)]) (st' := [.int l0]) bf142_9 bf142_10 rfl rfl).trans ?_
  refine (bu (ls'' := [none, none]) (st' := [.int l1, .int l0]) bf142_10 bf142_11 rfl rfl).trans ?_
  exact bkS bf142_11 bf142_14 rfl (by decide +kernel) (Nat.le_of_ble_eq_true rfl) rfl (bhd rfl)
theorem bk142_4 {w : am_Wd} {l0 : Int32} {l1 : Int32} : am_run 142 4 [some (.int l0), some (.int l1)] [] w = if ¬ l1 = (nI 3) then am_run 142 17 [some (.int l0), none] [] w else am_run 142 9 [some (.int l0), some (.int l1)] [] w := by
  refine (bu (ls'' := [some (.int l0), some (.int l1)]) (st' := [.int l1]) bf142_4 bf142_5 rfl rfl).trans ?_
  refine (bu (ls'' := [some (.int l0), some (.int l1)]) (st' := [.int (nI 3), .int l1]) bf142_5 bf142_6 rfl rfl).trans ?_
  exact bic bf142_6 rfl bf142_17 bf142_9 rfl rfl rfl
theorem bk142_14 {w : am_Wd} {s0 : Int32} : am_run 142 14 [none, none] [.int s0] w = am_run 142 18 [none, none] [.int s0] w := by
  refine (bu (ls'' := [none, none]) (st' := [.int s0]) bf142_14 bf142_18 rfl rfl).trans ?_
  rfl
theorem bk142_17 {w : am_Wd} {l0 : Int32} : am_run 142 17 [some (.int l0), none] [] w = am_run 142 18 [none, none] [.int l0] w := by
  refine (bu (ls'' := [none, none]) (st' := [.int l0]) bf142_17 bf142_18 rfl rfl).trans ?_
  rfl
theorem bk142_18 {w : am_Wd} {s0 : Int32} : am_run 142 18 [none, none] [.int s0] w = some (.inl (some (.int s0)), w) := by
  exact am_e2 bf142_18 rfl (am_ge_rf w)
theorem bf143_0 : am_fetch (am_mth 143) 0 = some (.iload_n 0, 1, [], []) := by decide +kernel
theorem bf143_1 : am_fetch (am_mth 143) 1 = some (.iload_n 1, 1, [], [0]) := by decide +kernel
theorem bf143_2 : am_fetch (am_mth 143) 2 = some (.ifCond .ne 7, 3, [], [0, 1]) := by decide +kernel
theorem bf143_5 : am_fetch (am_mth 143) 5 = some (.iconst 1, 1, [], [0, 1]) := by decide +kernel
theorem bf143_6 : am_fetch (am_mth 143) 6 = some (.goto 4, 3, [], [0, 1]) := by decide +kernel
theorem bf143_9 : am_fetch (am_mth 143) 9 = some (.iconst 2, 1, [], [0, 1]) := by decide +kernel
theorem bf143_10 : am_fetch (am_mth 143) 10 = some (.invokestatic 50, 3, [0, 100, 2, 1259, 1260, 48], [0, 1]) := by decide +kernel
theorem bf143_13 : am_fetch (am_mth 143) 13 = some (.iconst (-1), 1, [], [0, 1]) := by decide +kernel
theorem bf143_14 : am_fetch (am_mth 143) 14 = some (.if_icmp .eq 7, 3, [], [0, 1]) := by decide +kernel
theorem bf143_17 : am_fetch (am_mth 143) 17 = some (.iconst 1, 1, [], [0, 1]) := by decide +kernel
theorem bf143_18 : am_fetch (am_mth 143) 18 = some (.goto 4, 3, [], [0, 1]) := by decide +kernel
theorem bf143_21 : am_fetch (am_mth 143) 21 = some (.iconst 0, 1, [], [0, 1]) := by decide +kernel
theorem bf143_22 : am_fetch (am_mth 143) 22 = some (.ireturn, 1, [1], [0, 1]) := by decide +kernel
theorem bk143_0 {w : am_Wd} {l0 : Int32} {l1 : Int32} : am_run 143 0 [some (.int l0), some (.int l1)] [] w = if ¬ l1 = nI 0 then am_run 143 9 [none, none] [.int l0] w else am_run 143 5 [none, none] [.int l0] w := by
  refine (bu (ls'' := [none, some (.int l1)]) (st' := [.int l0]) bf143_0 bf143_1 rfl rfl).trans ?_
  refine (bu (ls'' := [none, none]) (st' := [.int l1, .int l0]) bf143_1 bf143_2 rfl rfl).trans ?_
  exact bifc bf143_2 rfl bf143_9 bf143_5 rfl rfl rfl
theorem bk143_9 {w : am_Wd} {s0 : Int32} : am_run 143 9 [none, none] [.int s0] w = am_run 143 10 [none, none] [.int (nI 2), .int s0] w := by
  refine (bu (ls'' := [none, none]) (st' := [.int (nI 2), .int s0]) bf143_9 bf143_10 rfl rfl).trans ?_
  rfl
theorem bk143_5 {w : am_Wd} {s0 : Int32} : am_run 143 5 [none, none] [.int s0] w = am_run 143 10 [none, none] [.int (nI 1), .int s0] w := by
  refine (bu (ls'' := [none, none]) (st' := [.int (nI 1), .int s0]) bf143_5 bf143_6 rfl rfl).trans ?_
  refine (bu (ls'' := [none, none]) (st' := [.int (nI 1), .int s0]) bf143_6 bf143_10 rfl rfl).trans ?_
  rfl
theorem bk143_10 {w : am_Wd} {s0 : Int32} {s1 : Int32} : am_run 143 10 [none, none] [.int s0, .int s1] w = (am_x 100 [.int s1, .int s0] w).bind fun r => bct r fun v w' => am_run 143 13 [none, none] (v.toList ++ []) w' := by
  exact bkS bf143_10 bf143_13 rfl (by decide +kernel) (Nat.le_of_ble_eq_true rfl) rfl (bhd rfl)
theorem bk143_13 {w : am_Wd} {s0 : Int32} : am_run 143 13 [none, none] [.int s0] w = if s0 = (-1 : Int32) then am_run 143 21 [none, none] [] w else am_run 143 17 [none, none] [] w := by
  refine (bu (ls'' := [none, none]) (st' := [.int (-1 : Int32), .int s0]) bf143_13 bf143_14 rfl rfl).trans ?_
  exact bic bf143_14 rfl bf143_21 bf143_17 rfl rfl rfl
theorem bk143_21 {w : am_Wd}  : am_run 143 21 [none, none] [] w = am_run 143 22 [none, none] [.int (nI 0)] w := by
  refine (bu (ls'' := [none, none]) (st' := [.int (nI 0)]) bf143_21 bf143_22 rfl rfl).trans ?_
  rfl
theorem bk143_17 {w : am_Wd}  : am_run 143 17 [none, none] [] w = am_run 143 22 [none, none] [.int (nI 1)] w := by
  refine (bu (ls'' := [none, none]) (st' := [.int (nI 1)]) bf143_17 bf143_18 rfl rfl).trans ?_
  refine (bu (ls'' := [none, none]) (st' := [.int (nI 1)]) bf143_18 bf143_22 rfl rfl).trans ?_
  rfl
theorem bk143_22 {w : am_Wd} {s0 : Int32} (hb : am_ok (am_rt 1) (.int s0) = true) : am_run 143 22 [none, none] [.int s0] w = some (.inl (some (.int s0)), w) := by
  exact am_e2 bf143_22 (by unfold am_stp; exact if_pos ⟨by decide, hb⟩) (am_ge_rf w)
theorem bf144_0 : am_fetch (am_mth 144) 0 = some (.aload_n 0, 1, [], []) := by decide +kernel
theorem bf144_1 : am_fetch (am_mth 144) 1 = some (.iload_n 1, 1, [], []) := by decide +kernel
theorem bf144_2 : am_fetch (am_mth 144) 2 = some (.invokestatic 76, 3, [0, 97, 1, 1242, 1243, 48], []) := by decide +kernel
theorem bf144_5 : am_fetch (am_mth 144) 5 = some (.iconst 1, 1, [], []) := by decide +kernel
theorem bf144_6 : am_fetch (am_mth 144) 6 = some (.invokevirtual 83, 3, [0, 96, 2, 11, 1251, 1253, 18, 48], []) := by decide +kernel
theorem bf144_9 : am_fetch (am_mth 144) 9 = some (.ifCond .eq 5, 3, [], []) := by decide +kernel
theorem bf144_12 : am_fetch (am_mth 144) 12 = some (.iconst 0, 1, [], [0, 1, 2, 3]) := by decide +kernel
theorem bf144_13 : am_fetch (am_mth 144) 13 = some (.ireturn, 1, [0], [0, 1, 2, 3]) := by decide +kernel
theorem bf144_14 : am_fetch (am_mth 144) 14 = some (.aload_n 0, 1, [], []) := by decide +kernel
theorem bf144_15 : am_fetch (am_mth 144) 15 = some (.getfield 21, 3, [0, 11, 9, 1206], []) := by decide +kernel
theorem bf144_18 : am_fetch (am_mth 144) 18 = some (.iload_n 1, 1, [], []) := by decide +kernel
theorem bf144_19 : am_fetch (am_mth 144) 19 = some (.iload_n 2, 1, [], []) := by decide +kernel
theorem bf144_20 : am_fetch (am_mth 144) 20 = some (.bastore, 1, [2], [2]) := by decide +kernel
theorem bf144_21 : am_fetch (am_mth 144) 21 = some (.aload_n 0, 1, [], [2]) := by decide +kernel
theorem bf144_22 : am_fetch (am_mth 144) 22 = some (.getfield 25, 3, [0, 11, 10, 1207], [2]) := by decide +kernel
theorem bf144_25 : am_fetch (am_mth 144) 25 = some (.iload_n 1, 1, [], [2]) := by decide +kernel
theorem bf144_26 : am_fetch (am_mth 144) 26 = some (.iload_n 3, 1, [], [1, 2]) := by decide +kernel
theorem bf144_27 : am_fetch (am_mth 144) 27 = some (.bastore, 1, [2], [1, 2, 3]) := by decide +kernel
theorem bf144_28 : am_fetch (am_mth 144) 28 = some (.aload_n 0, 1, [], [1, 2, 3]) := by decide +kernel
theorem bf144_29 : am_fetch (am_mth 144) 29 = some (.getfield 25, 3, [0, 11, 10, 1207], [0, 1, 2, 3]) := by decide +kernel
theorem bf144_32 : am_fetch (am_mth 144) 32 = some (.invokestatic 93, 3, [0, 44, 1, 1284, 1285, 48], [0, 1, 2, 3]) := by decide +kernel
theorem bf144_35 : am_fetch (am_mth 144) 35 = some (.ireturn, 1, [0], [0, 1, 2, 3]) := by decide +kernel
theorem bk144_0 {w : am_Wd} {l0 : Nat} {l1 : Int32} {l2 : Int32} {l3 : Int32} : am_run 144 0 [some (.ref l0), some (.int l1), some (.int l2), some (.int l3)] [] w = (am_x 97 [.int l1] w).bind fun r => bct r fun v w' => am_run 144 5 [some (.ref l0), some (.int l1), some (.int l2), some (.int l3)] (v.toList ++ [.ref l0]) w' := by
  refine (bu (ls'' := [some (.ref l0), some (.int l1), some (.int l2), some (.int l3)]) (st' := [.ref l0]) bf144_0 bf144_1 rfl rfl).trans ?_
  refine (bu (ls'' := [some (.ref l0), some (.int l1), some (.int l2), some (.int l3)]) (st' := [.int l1, .ref l0]) bf144_1 bf144_2 rfl rfl).trans ?_
  exact bkS bf144_2 bf144_5 rfl (by decide +kernel) (Nat.le_of_ble_eq_true rfl) rfl (bhd rfl)
theorem bk144_5 {w : am_Wd} {l0 : Nat} {l1 : Int32} {l2 : Int32} {l3 : Int32} {s0 : Int32} {s1 : Nat} : am_run 144 5 [some (.ref l0), some (.int l1), some (.int l2), some (.int l3)] [.int s0, .ref s1] w = (am_kf w s1 11).bind fun _ => (am_x 96 [.ref s1, .int s0, .int (nI 1)] w).bind fun r => bct r fun v w' => am_run 144 9 [some (.ref l0), some (.int l1), some (.int l2), some (.int l3)] (v.toList ++ []) w' := by
  refine (bu (ls'' := [some (.ref l0), some (.int l1), some (.int l2), some (.int l3)]) (st' := [.int (nI 1), .int s0, .ref s1]) bf144_5 bf144_6 rfl rfl).trans ?_
  exact bkV bf144_6 bf144_9 rfl (by decide +kernel) (Nat.le_of_ble_eq_true rfl) rfl (bhd rfl)
theorem bk144_9 {w : am_Wd} {l0 : Nat} {l1 : Int32} {l2 : Int32} {l3 : Int32} {s0 : Int32} : am_run 144 9 [some (.ref l0), some (.int l1), some (.int l2), some (.int l3)] [.int s0] w = if s0 = nI 0 then am_run 144 14 [some (.ref l0), some (.int l1), some (.int l2), some (.int l3)] [] w else am_run 144 12 [none, none, none, none] [] w := by
  exact bifc bf144_9 rfl bf144_14 bf144_12 rfl rfl rfl
theorem bk144_14 {w : am_Wd} {l0 : Nat} {l1 : Int32} {l2 : Int32} {l3 : Int32} : am_run 144 14 [some (.ref l0), some (.int l1), some (.int l2), some (.int l3)] [] w = (am_gf w l0 11 9).bind fun v => am_run 144 18 [some (.ref l0), some (.int l1), some (.int l2), some (.int l3)] (v :: []) w := by
  refine (bu (ls'' := [some (.ref l0), some (.int l1), some (.int l2), some (.int l3)]) (st' := [.ref l0]) bf144_14 bf144_15 rfl rfl).trans ?_
  exact bh bf144_15 bf144_18 rfl (fun _ _ => am_ge_rf w) rfl
theorem bk144_12 {w : am_Wd}  : am_run 144 12 [none, none, none, none] [] w = some (.inl (some (.int (nI 0))), w) := by
  refine (bu (ls'' := [none, none, none, none]) (st' := [.int (nI 0)]) bf144_12 bf144_13 rfl rfl).trans ?_
  exact am_e2 bf144_13 rfl (am_ge_rf w)
theorem bk144_18 {w : am_Wd} {l0 : Nat} {l1 : Int32} {l2 : Int32} {l3 : Int32} {s0 : Nat} : am_run 144 18 [some (.ref l0), some (.int l1), some (.int l2), some (.int l3)] [.ref s0] w = (am_wi 2 w s0 l1 (vp_nar .boolean l2)).bind fun w' => am_run 144 21 [some (.ref l0), some (.int l1), none, some (.int l3)] [] w' := by
  refine (bu (ls'' := [some (.ref l0), some (.int l1), some (.int l2), some (.int l3)]) (st' := [.int l1, .ref s0]) bf144_18 bf144_19 rfl rfl).trans ?_
  refine (bu (ls'' := [some (.ref l0), some (.int l1), none, some (.int l3)]) (st' := [.int l2, .int l1, .ref s0]) bf144_19 bf144_20 rfl rfl).trans ?_
  exact bh bf144_20 bf144_21 rfl (bge_wi) rfl
theorem bk144_21 {w : am_Wd} {l0 : Nat} {l1 : Int32} {l3 : Int32} : am_run 144 21 [some (.ref l0), some (.int l1), none, some (.int l3)] [] w = (am_gf w l0 11 10).bind fun v => am_run 144 25 [some (.ref l0), some (.int l1), none, some (.int l3)] (v :: []) w := by
  refine (bu (ls'' := [some (.ref l0), some (.int l1), none, some (.int l3)]) (st' := [.ref l0]) bf144_21 bf144_22 rfl rfl).trans ?_
  exact bh bf144_22 bf144_25 rfl (fun _ _ => am_ge_rf w) rfl
theorem bk144_25 {w : am_Wd} {l0 : Nat} {l1 : Int32} {l3 : Int32} {s0 : Nat} : am_run 144 25 [some (.ref l0), some (.int l1), none, some (.int l3)] [.ref s0] w = (am_wi 2 w s0 l1 (vp_nar .boolean l3)).bind fun w' => am_run 144 28 [some (.ref l0), none, none, none] [] w' := by
  refine (bu (ls'' := [some (.ref l0), none, none, some (.int l3)]) (st' := [.int l1, .ref s0]) bf144_25 bf144_26 rfl rfl).trans ?_
  refine (bu (ls'' := [some (.ref l0), none, none, none]) (st' := [.int l3, .int l1, .ref s0]) bf144_26 bf144_27 rfl rfl).trans ?_
  exact bh bf144_27 bf144_28 rfl (bge_wi) rfl
theorem bk144_28 {w : am_Wd} {l0 : Nat} : am_run 144 28 [some (.ref l0), none, none, none] [] w = (am_gf w l0 11 10).bind fun v => am_run 144 32 [none, none, none, none] (v :: []) w := by
  refine (bu (ls'' := [none, none, none, none]) (st' := [.ref l0]) bf144_28 bf144_29 rfl rfl).trans ?_
  exact bh bf144_29 bf144_32 rfl (fun _ _ => am_ge_rf w) rfl
theorem bk144_32 {w : am_Wd} {s0 : Nat} : am_run 144 32 [none, none, none, none] [.ref s0] w = (am_x 44 [.ref s0] w).bind fun r => bct r fun v w' => am_run 144 35 [none, none, none, none] (v.toList ++ []) w' := by
  exact bkS bf144_32 bf144_35 rfl (by decide +kernel) (Nat.le_of_ble_eq_true rfl) rfl (bhd rfl)
theorem bk144_35 {w : am_Wd} {s0 : Int32} : am_run 144 35 [none, none, none, none] [.int s0] w = some (.inl (some (.int s0)), w) := by
  exact am_e2 bf144_35 rfl (am_ge_rf w)
theorem bf145_0 : am_fetch (am_mth 145) 0 = some (.aload_n 0, 1, [], []) := by decide +kernel
theorem bf145_1 : am_fetch (am_mth 145) 1 = some (.iload_n 1, 1, [], []) := by decide +kernel
theorem bf145_2 : am_fetch (am_mth 145) 2 = some (.iconst 1, 1, [], []) := by decide +kernel
theorem bf145_3 : am_fetch (am_mth 145) 3 = some (.sipush 600, 3, [], []) := by decide +kernel
theorem bf145_6 : am_fetch (am_mth 145) 6 = some (.invokestatic 42, 3, [0, 39, 3, 1245, 1246, 48], []) := by decide +kernel
theorem bf145_9 : am_fetch (am_mth 145) 9 = some (.ifCond .ne 7, 3, [], []) := by decide +kernel
theorem bf145_12 : am_fetch (am_mth 145) 12 = some (.iconst 1, 1, [], []) := by decide +kernel
theorem bf145_13 : am_fetch (am_mth 145) 13 = some (.goto 4, 3, [], []) := by decide +kernel
theorem bf145_16 : am_fetch (am_mth 145) 16 = some (.iconst 0, 1, [], []) := by decide +kernel
theorem bf145_17 : am_fetch (am_mth 145) 17 = some (.iconst 1, 1, [], []) := by decide +kernel
theorem bf145_18 : am_fetch (am_mth 145) 18 = some (.invokevirtual 83, 3, [0, 96, 2, 11, 1251, 1253, 18, 48], []) := by decide +kernel
theorem bf145_21 : am_fetch (am_mth 145) 21 = some (.ifCond .ne 28, 3, [], []) := by decide +kernel
theorem bf145_24 : am_fetch (am_mth 145) 24 = some (.aload_n 0, 1, [], []) := by decide +kernel
theorem bf145_25 : am_fetch (am_mth 145) 25 = some (.aload_n 0, 1, [], []) := by decide +kernel
theorem bf145_26 : am_fetch (am_mth 145) 26 = some (.getfield 54, 3, [0, 11, 1, 1198], []) := by decide +kernel
theorem bf145_29 : am_fetch (am_mth 145) 29 = some (.iload_n 1, 1, [], []) := by decide +kernel
theorem bf145_30 : am_fetch (am_mth 145) 30 = some (.iadd, 1, [], []) := by decide +kernel
theorem bf145_31 : am_fetch (am_mth 145) 31 = some (.sipush 3000, 3, [], []) := by decide +kernel
theorem bf145_34 : am_fetch (am_mth 145) 34 = some (.if_icmp .le 7, 3, [], []) := by decide +kernel
theorem bf145_37 : am_fetch (am_mth 145) 37 = some (.iconst 1, 1, [], []) := by decide +kernel
theorem bf145_38 : am_fetch (am_mth 145) 38 = some (.goto 4, 3, [], []) := by decide +kernel
theorem bf145_41 : am_fetch (am_mth 145) 41 = some (.iconst 0, 1, [], []) := by decide +kernel
theorem bf145_42 : am_fetch (am_mth 145) 42 = some (.iconst 2, 1, [], []) := by decide +kernel
theorem bf145_43 : am_fetch (am_mth 145) 43 = some (.invokevirtual 38, 3, [0, 40, 2, 11, 1255, 1257, 19, 48], []) := by decide +kernel
theorem bf145_46 : am_fetch (am_mth 145) 46 = some (.ifCond .eq 5, 3, [], []) := by decide +kernel
theorem bf145_49 : am_fetch (am_mth 145) 49 = some (.iconst 0, 1, [], [0, 1]) := by decide +kernel
theorem bf145_50 : am_fetch (am_mth 145) 50 = some (.ireturn, 1, [0], [0, 1]) := by decide +kernel
theorem bf145_51 : am_fetch (am_mth 145) 51 = some (.aload_n 0, 1, [], []) := by decide +kernel
theorem bf145_52 : am_fetch (am_mth 145) 52 = some (.dup, 1, [], []) := by decide +kernel
theorem bf145_53 : am_fetch (am_mth 145) 53 = some (.getfield 54, 3, [0, 11, 1, 1198], []) := by decide +kernel
theorem bf145_56 : am_fetch (am_mth 145) 56 = some (.iload_n 1, 1, [], []) := by decide +kernel
theorem bf145_57 : am_fetch (am_mth 145) 57 = some (.iadd, 1, [], [1]) := by decide +kernel
theorem bf145_58 : am_fetch (am_mth 145) 58 = some (.putfield 54, 3, [0, 11, 1, 1198], [1]) := by decide +kernel
theorem bf145_61 : am_fetch (am_mth 145) 61 = some (.aload_n 0, 1, [], [1]) := by decide +kernel
theorem bf145_62 : am_fetch (am_mth 145) 62 = some (.getfield 54, 3, [0, 11, 1, 1198], [0, 1]) := by decide +kernel
theorem bf145_65 : am_fetch (am_mth 145) 65 = some (.ireturn, 1, [0], [0, 1]) := by decide +kernel
theorem bk145_0 {w : am_Wd} {l0 : Nat} {l1 : Int32} : am_run 145 0 [some (.ref l0), some (.int l1)] [] w = (am_x 39 [.int l1, .int (nI 1), .int (nI 600)] w).bind fun r => bct r fun v w' => am_run 145 9 [some (.ref l0), some (.int l1)] (v.toList ++ [.ref l0]) w' := by
  refine (bu (ls'' := [some (.ref l0), some (.int l1)]) (st' := [.ref l0]) bf145_0 bf145_1 rfl rfl).trans ?_
  refine (bu (ls'' := [some (.ref l0), some (.int l1)]) (st' := [.int l1, .ref l0]) bf145_1 bf145_2 rfl rfl).trans ?_
  refine (bu (ls'' := [some (.ref l0), some (.int l1)]) (st' := [.int (nI 1), .int l1, .ref l0]) bf145_2 bf145_3 rfl rfl).trans ?_
  refine (bu (ls'' := [some (.ref l0), some (.int l1)]) (st' := [.int (nI 600), .int (nI 1), .int l1, .ref l0]) bf145_3 bf145_6 rfl rfl).trans ?_
  exact bkS bf145_6 bf145_9 rfl (by decide +kernel) (Nat.le_of_ble_eq_true rfl) rfl (bhd rfl)
theorem bk145_9 {w : am_Wd} {l0 : Nat} {l1 : Int32} {s0 : Int32} {s1 : Nat} : am_run 145 9 [some (.ref l0), some (.int l1)] [.int s0, .ref s1] w = if ¬ s0 = nI 0 then am_run 145 16 [some (.ref l0), some (.int l1)] [.ref s1] w else am_run 145 12 [some (.ref l0), some (.int l1)] [.ref s1] w := by
  exact bifc bf145_9 rfl bf145_16 bf145_12 rfl rfl rfl
theorem bk145_16 {w : am_Wd} {l0 : Nat} {l1 : Int32} {s0 : Nat} : am_run 145 16 [some (.ref l0), some (.int l1)] [.ref s0] w = am_run 145 17 [some (.ref l0), some (.int l1)] [.int (nI 0), .ref s0] w := by
  refine (bu (ls'' := [some (.ref l0), some (.int l1)]) (st' := [.int (nI 0), .ref s0]) bf145_16 bf145_17 rfl rfl).trans ?_
  rfl
theorem bk145_12 {w : am_Wd} {l0 : Nat} {l1 : Int32} {s0 : Nat} : am_run 145 12 [some (.ref l0), some (.int l1)] [.ref s0] w = am_run 145 17 [some (.ref l0), some (.int l1)] [.int (nI 1), .ref s0] w := by
  refine (bu (ls'' := [some (.ref l0), some (.int l1)]) (st' := [.int (nI 1), .ref s0]) bf145_12 bf145_13 rfl rfl).trans ?_
  refine (bu (ls'' := [some (.ref l0), some (.int l1)]) (st' := [.int (nI 1), .ref s0]) bf145_13 bf145_17 rfl rfl).trans ?_
  rfl
theorem bk145_17 {w : am_Wd} {l0 : Nat} {l1 : Int32} {s0 : Int32} {s1 : Nat} : am_run 145 17 [some (.ref l0), some (.int l1)] [.int s0, .ref s1] w = (am_kf w s1 11).bind fun _ => (am_x 96 [.ref s1, .int s0, .int (nI 1)] w).bind fun r => bct r fun v w' => am_run 145 21 [some (.ref l0), some (.int l1)] (v.toList ++ []) w' := by
  refine (bu (ls'' := [some (.ref l0), some (.int l1)]) (st' := [.int (nI 1), .int s0, .ref s1]) bf145_17 bf145_18 rfl rfl).trans ?_
  exact bkV bf145_18 bf145_21 rfl (by decide +kernel) (Nat.le_of_ble_eq_true rfl) rfl (bhd rfl)
theorem bk145_21 {w : am_Wd} {l0 : Nat} {l1 : Int32} {s0 : Int32} : am_run 145 21 [some (.ref l0), some (.int l1)] [.int s0] w = if ¬ s0 = nI 0 then am_run 145 49 [none, none] [] w else am_run 145 24 [some (.ref l0), some (.int l1)] [] w := by
  exact bifc bf145_21 rfl bf145_49 bf145_24 rfl rfl rfl
theorem bk145_49 {w : am_Wd}  : am_run 145 49 [none, none] [] w = some (.inl (some (.int (nI 0))), w) := by
  refine (bu (ls'' := [none, none]) (st' := [.int (nI 0)]) bf145_49 bf145_50 rfl rfl).trans ?_
  exact am_e2 bf145_50 rfl (am_ge_rf w)
theorem bk145_24 {w : am_Wd} {l0 : Nat} {l1 : Int32} : am_run 145 24 [some (.ref l0), some (.int l1)] [] w = (am_gf w l0 11 1).bind fun v => am_run 145 29 [some (.ref l0), some (.int l1)] (v :: [.ref l0]) w := by
  refine (bu (ls'' := [some (.ref l0), some (.int l1)]) (st' := [.ref l0]) bf145_24 bf145_25 rfl rfl).trans ?_
  refine (bu (ls'' := [some (.ref l0), some (.int l1)]) (st' := [.ref l0, .ref l0]) bf145_25 bf145_26 rfl rfl).trans ?_
  exact bh bf145_26 bf145_29 rfl (fun _ _ => am_ge_rf w) rfl
theorem bk145_29 {w : am_Wd} {l0 : Nat} {l1 : Int32} {s0 : Int32} {s1 : Nat} : am_run 145 29 [some (.ref l0), some (.int l1)] [.int s0, .ref s1] w = if (s0 + l1) ≤ (nI 3000) then am_run 145 41 [some (.ref l0), some (.int l1)] [.ref s1] w else am_run 145 37 [some (.ref l0), some (.int l1)] [.ref s1] w := by
  refine (bu (ls'' := [some (.ref l0), some (.int l1)]) (st' := [.int l1, .int s0, .ref s1]) bf145_29 bf145_30 rfl rfl).trans ?_
  refine (bu (ls'' := [some (.ref l0), some (.int l1)]) (st' := [.int (s0 + l1), .ref s1]) bf145_30 bf145_31 rfl rfl).trans ?_
  refine (bu (ls'' := [some (.ref l0), some (.int l1)]) (st' := [.int (nI 3000), .int (s0 + l1), .ref s1]) bf145_31 bf145_34 rfl rfl).trans ?_
  exact bic bf145_34 rfl bf145_41 bf145_37 rfl rfl rfl
theorem bk145_41 {w : am_Wd} {l0 : Nat} {l1 : Int32} {s0 : Nat} : am_run 145 41 [some (.ref l0), some (.int l1)] [.ref s0] w = am_run 145 42 [some (.ref l0), some (.int l1)] [.int (nI 0), .ref s0] w := by
  refine (bu (ls'' := [some (.ref l0), some (.int l1)]) (st' := [.int (nI 0), .ref s0]) bf145_41 bf145_42 rfl rfl).trans ?_
  rfl
theorem bk145_37 {w : am_Wd} {l0 : Nat} {l1 : Int32} {s0 : Nat} : am_run 145 37 [some (.ref l0), some (.int l1)] [.ref s0] w = am_run 145 42 [some (.ref l0), some (.int l1)] [.int (nI 1), .ref s0] w := by
  refine (bu (ls'' := [some (.ref l0), some (.int l1)]) (st' := [.int (nI 1), .ref s0]) bf145_37 bf145_38 rfl rfl).trans ?_
  refine (bu (ls'' := [some (.ref l0), some (.int l1)]) (st' := [.int (nI 1), .ref s0]) bf145_38 bf145_42 rfl rfl).trans ?_
  rfl
theorem bk145_42 {w : am_Wd} {l0 : Nat} {l1 : Int32} {s0 : Int32} {s1 : Nat} : am_run 145 42 [some (.ref l0), some (.int l1)] [.int s0, .ref s1] w = (am_kf w s1 11).bind fun _ => (am_x 40 [.ref s1, .int s0, .int (nI 2)] w).bind fun r => bct r fun v w' => am_run 145 46 [some (.ref l0), some (.int l1)] (v.toList ++ []) w' := by
  refine (bu (ls'' := [some (.ref l0), some (.int l1)]) (st' := [.int (nI 2), .int s0, .ref s1]) bf145_42 bf145_43 rfl rfl).trans ?_
  exact bkV bf145_43 bf145_46 rfl (by decide +kernel) (Nat.le_of_ble_eq_true rfl) rfl (bhd rfl)
theorem bk145_46 {w : am_Wd} {l0 : Nat} {l1 : Int32} {s0 : Int32} : am_run 145 46 [some (.ref l0), some (.int l1)] [.int s0] w = if s0 = nI 0 then am_run 145 51 [some (.ref l0), some (.int l1)] [] w else am_run 145 49 [none, none] [] w := by
  exact bifc bf145_46 rfl bf145_51 bf145_49 rfl rfl rfl
theorem bk145_51 {w : am_Wd} {l0 : Nat} {l1 : Int32} : am_run 145 51 [some (.ref l0), some (.int l1)] [] w = (am_gf w l0 11 1).bind fun v => am_run 145 56 [some (.ref l0), some (.int l1)] (v :: [.ref l0]) w := by
  refine (bu (ls'' := [some (.ref l0), some (.int l1)]) (st' := [.ref l0]) bf145_51 bf145_52 rfl rfl).trans ?_
  refine (bu (ls'' := [some (.ref l0), some (.int l1)]) (st' := [.ref l0, .ref l0]) bf145_52 bf145_53 rfl rfl).trans ?_
  exact bh bf145_53 bf145_56 rfl (fun _ _ => am_ge_rf w) rfl
theorem bk145_56 {w : am_Wd} {l0 : Nat} {l1 : Int32} {s0 : Int32} {s1 : Nat} : am_run 145 56 [some (.ref l0), some (.int l1)] [.int s0, .ref s1] w = (am_pf w s1 11 1 (.int (s0 + l1))).bind fun w' => am_run 145 61 [some (.ref l0), none] [] w' := by
  refine (bu (ls'' := [some (.ref l0), none]) (st' := [.int l1, .int s0, .ref s1]) bf145_56 bf145_57 rfl rfl).trans ?_
  refine (bu (ls'' := [some (.ref l0), none]) (st' := [.int (s0 + l1), .ref s1]) bf145_57 bf145_58 rfl rfl).trans ?_
  exact bh bf145_58 bf145_61 rfl (bge_pf) rfl
theorem bk145_61 {w : am_Wd} {l0 : Nat} : am_run 145 61 [some (.ref l0), none] [] w = (am_gf w l0 11 1).bind fun v => am_run 145 65 [none, none] (v :: []) w := by
  refine (bu (ls'' := [none, none]) (st' := [.ref l0]) bf145_61 bf145_62 rfl rfl).trans ?_
  exact bh bf145_62 bf145_65 rfl (fun _ _ => am_ge_rf w) rfl
theorem bk145_65 {w : am_Wd} {s0 : Int32} : am_run 145 65 [none, none] [.int s0] w = some (.inl (some (.int s0)), w) := by
  exact am_e2 bf145_65 rfl (am_ge_rf w)
theorem bf146_0 : am_fetch (am_mth 146) 0 = some (.iconst 0, 1, [], [3, 4, 5, 6, 7, 8]) := by decide +kernel
theorem bf146_1 : am_fetch (am_mth 146) 1 = some (.istore_n 3, 1, [], [3, 4, 5, 6, 7, 8]) := by decide +kernel
theorem bf146_2 : am_fetch (am_mth 146) 2 = some (.iconst 0, 1, [], [4, 5, 6, 7, 8]) := by decide +kernel
theorem bf146_3 : am_fetch (am_mth 146) 3 = some (.istore 4, 2, [], [4, 5, 6, 7, 8]) := by decide +kernel
theorem bf146_5 : am_fetch (am_mth 146) 5 = some (.iconst 0, 1, [], [5, 6, 7, 8]) := by decide +kernel
theorem bf146_6 : am_fetch (am_mth 146) 6 = some (.istore 5, 2, [], [5, 6, 7, 8]) := by decide +kernel
theorem bf146_8 : am_fetch (am_mth 146) 8 = some (.iconst 0, 1, [], [6, 7, 8]) := by decide +kernel
theorem bf146_9 : am_fetch (am_mth 146) 9 = some (.istore 6, 2, [], [6, 7, 8]) := by decide +kernel
theorem bf146_11 : am_fetch (am_mth 146) 11 = some (.iload 6, 2, [], [7, 8]) := by decide +kernel
theorem bf146_13 : am_fetch (am_mth 146) 13 = some (.bipush 36, 2, [], [7, 8]) := by decide +kernel
theorem bf146_15 : am_fetch (am_mth 146) 15 = some (.if_icmp .ge 103, 3, [], [7, 8]) := by decide +kernel
theorem bf146_18 : am_fetch (am_mth 146) 18 = some (.iconst 0, 1, [], [7, 8]) := by decide +kernel
theorem bf146_19 : am_fetch (am_mth 146) 19 = some (.istore 7, 2, [], [7, 8]) := by decide +kernel
theorem bf146_21 : am_fetch (am_mth 146) 21 = some (.iload 7, 2, [], [8]) := by decide +kernel
theorem bf146_23 : am_fetch (am_mth 146) 23 = some (.iconst 2, 1, [], [8]) := by decide +kernel
theorem bf146_24 : am_fetch (am_mth 146) 24 = some (.if_icmp .ge 88, 3, [], [8]) := by decide +kernel
theorem bf146_27 : am_fetch (am_mth 146) 27 = some (.aload_n 1, 1, [], [8]) := by decide +kernel
theorem bf146_28 : am_fetch (am_mth 146) 28 = some (.getfield 71, 3, [0, 10, 4, 1309], [8]) := by decide +kernel
theorem bf146_31 : am_fetch (am_mth 146) 31 = some (.iload 6, 2, [], [8]) := by decide +kernel
theorem bf146_33 : am_fetch (am_mth 146) 33 = some (.aaload, 1, [], [8]) := by decide +kernel
theorem bf146_34 : am_fetch (am_mth 146) 34 = some (.iload 7, 2, [], [8]) := by decide +kernel
theorem bf146_36 : am_fetch (am_mth 146) 36 = some (.iaload, 1, [], [8]) := by decide +kernel
theorem bf146_37 : am_fetch (am_mth 146) 37 = some (.istore 8, 2, [], [8]) := by decide +kernel
theorem bf146_39 : am_fetch (am_mth 146) 39 = some (.iload_n 3, 1, [], []) := by decide +kernel
theorem bf146_40 : am_fetch (am_mth 146) 40 = some (.iload 8, 2, [], [3]) := by decide +kernel
theorem bf146_42 : am_fetch (am_mth 146) 42 = some (.iconst 1, 1, [], [3]) := by decide +kernel
theorem bf146_43 : am_fetch (am_mth 146) 43 = some (.if_icmp .ne 7, 3, [], [3]) := by decide +kernel
theorem bf146_46 : am_fetch (am_mth 146) 46 = some (.iconst 1, 1, [], [3]) := by decide +kernel
theorem bf146_47 : am_fetch (am_mth 146) 47 = some (.goto 4, 3, [], [3]) := by decide +kernel
theorem bf146_50 : am_fetch (am_mth 146) 50 = some (.iconst 0, 1, [], [3]) := by decide +kernel
theorem bf146_51 : am_fetch (am_mth 146) 51 = some (.iadd, 1, [], [3]) := by decide +kernel
theorem bf146_52 : am_fetch (am_mth 146) 52 = some (.istore_n 3, 1, [], [3]) := by decide +kernel
theorem bf146_53 : am_fetch (am_mth 146) 53 = some (.iload 4, 2, [], []) := by decide +kernel
theorem bf146_55 : am_fetch (am_mth 146) 55 = some (.iload 8, 2, [], [4]) := by decide +kernel
theorem bf146_57 : am_fetch (am_mth 146) 57 = some (.iconst 2, 1, [], [4]) := by decide +kernel
theorem bf146_58 : am_fetch (am_mth 146) 58 = some (.if_icmp .ne 7, 3, [], [4]) := by decide +kernel
theorem bf146_61 : am_fetch (am_mth 146) 61 = some (.iconst 1, 1, [], [4]) := by decide +kernel
theorem bf146_62 : am_fetch (am_mth 146) 62 = some (.goto 4, 3, [], [4]) := by decide +kernel
theorem bf146_65 : am_fetch (am_mth 146) 65 = some (.iconst 0, 1, [], [4]) := by decide +kernel
theorem bf146_66 : am_fetch (am_mth 146) 66 = some (.iadd, 1, [], [4]) := by decide +kernel
theorem bf146_67 : am_fetch (am_mth 146) 67 = some (.istore 4, 2, [], [4]) := by decide +kernel
theorem bf146_69 : am_fetch (am_mth 146) 69 = some (.iload 5, 2, [], []) := by decide +kernel
theorem bf146_71 : am_fetch (am_mth 146) 71 = some (.iload 8, 2, [], [5]) := by decide +kernel
theorem bf146_73 : am_fetch (am_mth 146) 73 = some (.ifCond .eq 29, 3, [], [5]) := by decide +kernel
theorem bf146_76 : am_fetch (am_mth 146) 76 = some (.iload 8, 2, [], [5]) := by decide +kernel
theorem bf146_78 : am_fetch (am_mth 146) 78 = some (.iconst 2, 1, [], [5, 8]) := by decide +kernel
theorem bf146_79 : am_fetch (am_mth 146) 79 = some (.if_icmp .ne 7, 3, [], [5, 8]) := by decide +kernel
theorem bf146_82 : am_fetch (am_mth 146) 82 = some (.iconst 1, 1, [], [5, 8]) := by decide +kernel
theorem bf146_83 : am_fetch (am_mth 146) 83 = some (.goto 4, 3, [], [5, 8]) := by decide +kernel
theorem bf146_86 : am_fetch (am_mth 146) 86 = some (.iconst 0, 1, [], [5, 8]) := by decide +kernel
theorem bf146_87 : am_fetch (am_mth 146) 87 = some (.aload_n 0, 1, [], [5, 8]) := by decide +kernel
theorem bf146_88 : am_fetch (am_mth 146) 88 = some (.iload 6, 2, [], [5, 8]) := by decide +kernel
theorem bf146_90 : am_fetch (am_mth 146) 90 = some (.iload 7, 2, [], [5, 8]) := by decide +kernel
theorem bf146_92 : am_fetch (am_mth 146) 92 = some (.invokevirtual 68, 3, [0, 101, 2, 11, 1442, 1444, 31, 48], [5, 8]) := by decide +kernel
theorem bf146_95 : am_fetch (am_mth 146) 95 = some (.if_icmp .ne 7, 3, [], [5, 8]) := by decide +kernel
theorem bf146_98 : am_fetch (am_mth 146) 98 = some (.iconst 1, 1, [], [5, 8]) := by decide +kernel
theorem bf146_99 : am_fetch (am_mth 146) 99 = some (.goto 4, 3, [], [5, 8]) := by decide +kernel
theorem bf146_102 : am_fetch (am_mth 146) 102 = some (.iconst 0, 1, [], [5, 8]) := by decide +kernel
theorem bf146_103 : am_fetch (am_mth 146) 103 = some (.iadd, 1, [], [5, 8]) := by decide +kernel
theorem bf146_104 : am_fetch (am_mth 146) 104 = some (.istore 5, 2, [], [5, 8]) := by decide +kernel
theorem bf146_106 : am_fetch (am_mth 146) 106 = some (.iinc 7 1, 3, [], [8]) := by decide +kernel
theorem bf146_109 : am_fetch (am_mth 146) 109 = some (.goto (-88), 3, [], [8]) := by decide +kernel
theorem bf146_112 : am_fetch (am_mth 146) 112 = some (.iinc 6 1, 3, [], [7, 8]) := by decide +kernel
theorem bf146_115 : am_fetch (am_mth 146) 115 = some (.goto (-104), 3, [], [7, 8]) := by decide +kernel
theorem bf146_118 : am_fetch (am_mth 146) 118 = some (.bipush 13, 2, [], [0, 6, 7, 8]) := by decide +kernel
theorem bf146_120 : am_fetch (am_mth 146) 120 = some (.newarray .int, 2, [0, 108], [0, 6, 7, 8]) := by decide +kernel
theorem bf146_122 : am_fetch (am_mth 146) 122 = some (.dup, 1, [], [0, 6, 7, 8]) := by decide +kernel
theorem bf146_123 : am_fetch (am_mth 146) 123 = some (.iconst 0, 1, [], [0, 6, 7, 8]) := by decide +kernel
theorem bf146_124 : am_fetch (am_mth 146) 124 = some (.aload_n 1, 1, [], [0, 6, 7, 8]) := by decide +kernel
theorem bf146_125 : am_fetch (am_mth 146) 125 = some (.getfield 101, 3, [0, 10, 0, 1303], [0, 6, 7, 8]) := by decide +kernel
theorem bf146_128 : am_fetch (am_mth 146) 128 = some (.iastore, 1, [], [0, 6, 7, 8]) := by decide +kernel
theorem bf146_129 : am_fetch (am_mth 146) 129 = some (.dup, 1, [], [0, 6, 7, 8]) := by decide +kernel
theorem bf146_130 : am_fetch (am_mth 146) 130 = some (.iconst 1, 1, [], [0, 6, 7, 8]) := by decide +kernel
theorem bf146_131 : am_fetch (am_mth 146) 131 = some (.aload_n 1, 1, [], [0, 6, 7, 8]) := by decide +kernel
theorem bf146_132 : am_fetch (am_mth 146) 132 = some (.getfield 104, 3, [0, 10, 1, 1304], [0, 6, 7, 8]) := by decide +kernel
theorem bf146_135 : am_fetch (am_mth 146) 135 = some (.iastore, 1, [], [0, 6, 7, 8]) := by decide +kernel
theorem bf146_136 : am_fetch (am_mth 146) 136 = some (.dup, 1, [], [0, 6, 7, 8]) := by decide +kernel
theorem bf146_137 : am_fetch (am_mth 146) 137 = some (.iconst 2, 1, [], [0, 6, 7, 8]) := by decide +kernel
theorem bf146_138 : am_fetch (am_mth 146) 138 = some (.aload_n 1, 1, [], [0, 6, 7, 8]) := by decide +kernel
theorem bf146_139 : am_fetch (am_mth 146) 139 = some (.getfield 107, 3, [0, 10, 2, 1305], [0, 6, 7, 8]) := by decide +kernel
theorem bf146_142 : am_fetch (am_mth 146) 142 = some (.iastore, 1, [], [0, 6, 7, 8]) := by decide +kernel
theorem bf146_143 : am_fetch (am_mth 146) 143 = some (.dup, 1, [], [0, 6, 7, 8]) := by decide +kernel
theorem bf146_144 : am_fetch (am_mth 146) 144 = some (.iconst 3, 1, [], [0, 6, 7, 8]) := by decide +kernel
theorem bf146_145 : am_fetch (am_mth 146) 145 = some (.aload_n 1, 1, [], [0, 6, 7, 8]) := by decide +kernel
theorem bf146_146 : am_fetch (am_mth 146) 146 = some (.invokevirtual 143, 3, [0, 37, 0, 10, 1459, 1408, 1409, 66], [0, 6, 7, 8]) := by decide +kernel
theorem bf146_149 : am_fetch (am_mth 146) 149 = some (.iastore, 1, [], [0, 6, 7, 8]) := by decide +kernel
theorem bf146_150 : am_fetch (am_mth 146) 150 = some (.dup, 1, [], [0, 6, 7, 8]) := by decide +kernel
theorem bf146_151 : am_fetch (am_mth 146) 151 = some (.iconst 4, 1, [], [0, 6, 7, 8]) := by decide +kernel
theorem bf146_152 : am_fetch (am_mth 146) 152 = some (.aload_n 1, 1, [], [0, 6, 7, 8]) := by decide +kernel
theorem bf146_153 : am_fetch (am_mth 146) 153 = some (.invokevirtual 143, 3, [0, 37, 0, 10, 1459, 1408, 1409, 66], [0, 6, 7, 8]) := by decide +kernel
theorem bf146_156 : am_fetch (am_mth 146) 156 = some (.iconst 1, 1, [], [0, 6, 7, 8]) := by decide +kernel
theorem bf146_157 : am_fetch (am_mth 146) 157 = some (.if_icmp .ne 7, 3, [], [0, 6, 7, 8]) := by decide +kernel
theorem bf146_160 : am_fetch (am_mth 146) 160 = some (.iconst 1, 1, [], [0, 6, 7, 8]) := by decide +kernel
theorem bf146_161 : am_fetch (am_mth 146) 161 = some (.goto 4, 3, [], [0, 6, 7, 8]) := by decide +kernel
theorem bf146_164 : am_fetch (am_mth 146) 164 = some (.iconst 0, 1, [], [0, 6, 7, 8]) := by decide +kernel
theorem bf146_165 : am_fetch (am_mth 146) 165 = some (.iastore, 1, [], [0, 6, 7, 8]) := by decide +kernel
theorem bf146_166 : am_fetch (am_mth 146) 166 = some (.dup, 1, [], [0, 6, 7, 8]) := by decide +kernel
theorem bf146_167 : am_fetch (am_mth 146) 167 = some (.iconst 5, 1, [], [0, 6, 7, 8]) := by decide +kernel
theorem bf146_168 : am_fetch (am_mth 146) 168 = some (.iload_n 3, 1, [], [0, 6, 7, 8]) := by decide +kernel
theorem bf146_169 : am_fetch (am_mth 146) 169 = some (.iastore, 1, [], [0, 6, 7, 8]) := by decide +kernel
theorem bf146_170 : am_fetch (am_mth 146) 170 = some (.dup, 1, [], [0, 6, 7, 8]) := by decide +kernel
theorem bf146_171 : am_fetch (am_mth 146) 171 = some (.bipush 6, 2, [], [0, 6, 7, 8]) := by decide +kernel
theorem bf146_173 : am_fetch (am_mth 146) 173 = some (.iload 4, 2, [], [0, 6, 7, 8]) := by decide +kernel
theorem bf146_175 : am_fetch (am_mth 146) 175 = some (.iastore, 1, [], [0, 6, 7, 8]) := by decide +kernel
theorem bf146_176 : am_fetch (am_mth 146) 176 = some (.dup, 1, [], [0, 6, 7, 8]) := by decide +kernel
theorem bf146_177 : am_fetch (am_mth 146) 177 = some (.bipush 7, 2, [], [0, 6, 7, 8]) := by decide +kernel
theorem bf146_179 : am_fetch (am_mth 146) 179 = some (.iload 5, 2, [], [0, 6, 7, 8]) := by decide +kernel
theorem bf146_181 : am_fetch (am_mth 146) 181 = some (.iastore, 1, [], [0, 6, 7, 8]) := by decide +kernel
theorem bf146_182 : am_fetch (am_mth 146) 182 = some (.dup, 1, [], [0, 6, 7, 8]) := by decide +kernel
theorem bf146_183 : am_fetch (am_mth 146) 183 = some (.bipush 8, 2, [], [0, 6, 7, 8]) := by decide +kernel
