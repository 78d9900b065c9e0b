/-! RULES, on. Mine. -/
theorem bf211_70 : am_fetch (am_mth 211) 70 = some (.iload_n 1, 1, [], [5]) := by decide +kernel
theorem bf211_71 : am_fetch (am_mth 211) 71 = some (.iload 4, 2, [], [5]) := by decide +kernel
theorem bf211_73 : am_fetch (am_mth 211) 73 = some (.ishr, 1, [], [5]) := by decide +kernel
theorem bf211_74 : am_fetch (am_mth 211) 74 = some (.iconst 1, 1, [], [5]) := by decide +kernel
theorem bf211_75 : am_fetch (am_mth 211) 75 = some (.iand, 1, [], [5]) := by decide +kernel
theorem bf211_76 : am_fetch (am_mth 211) 76 = some (.iconst 1, 1, [], [5]) := by decide +kernel
theorem bf211_77 : am_fetch (am_mth 211) 77 = some (.if_icmp .ne 7, 3, [], [5]) := by decide +kernel
theorem bf211_80 : am_fetch (am_mth 211) 80 = some (.iconst 1, 1, [], [5]) := by decide +kernel
theorem bf211_81 : am_fetch (am_mth 211) 81 = some (.goto 4, 3, [], [5]) := by decide +kernel
theorem bf211_84 : am_fetch (am_mth 211) 84 = some (.iconst 0, 1, [], [5]) := by decide +kernel
theorem bf211_85 : am_fetch (am_mth 211) 85 = some (.if_icmp .ne 7, 3, [], [5]) := by decide +kernel
theorem bf211_88 : am_fetch (am_mth 211) 88 = some (.iconst 1, 1, [], [5]) := by decide +kernel
theorem bf211_89 : am_fetch (am_mth 211) 89 = some (.goto 4, 3, [], [5]) := by decide +kernel
theorem bf211_92 : am_fetch (am_mth 211) 92 = some (.iconst 0, 1, [], [5]) := by decide +kernel
theorem bf211_93 : am_fetch (am_mth 211) 93 = some (.iand, 1, [], [5]) := by decide +kernel
theorem bf211_94 : am_fetch (am_mth 211) 94 = some (.bastore, 1, [2], [5]) := by decide +kernel
theorem bf211_95 : am_fetch (am_mth 211) 95 = some (.iinc 4 1, 3, [], [5]) := by decide +kernel
theorem bf211_98 : am_fetch (am_mth 211) 98 = some (.goto (-71), 3, [], [5]) := by decide +kernel
theorem bf211_101 : am_fetch (am_mth 211) 101 = some (.iinc 3 1, 3, [], [4, 5]) := by decide +kernel
theorem bf211_104 : am_fetch (am_mth 211) 104 = some (.goto (-96), 3, [], [4, 5]) := by decide +kernel
theorem bf211_107 : am_fetch (am_mth 211) 107 = some (.aload_n 2, 1, [], [0, 1, 3, 4, 5]) := by decide +kernel
theorem bf211_108 : am_fetch (am_mth 211) 108 = some (.areturn, 1, [], [0, 1, 2, 3, 4, 5]) := by decide +kernel
theorem bk211_0 {w : am_Wd} {l0 : Nat} {l1 : Int32} : am_run 211 0 [some (.ref l0), some (.int l1), none, none, none, none] [] w = (am_na w 2 (nI 144)).bind fun w' => am_run 211 5 [some (.ref l0), some (.int l1), none, none, none, none] (.ref w.2.1 :: []) w' := by
  refine (bu (ls'' := [some (.ref l0), some (.int l1), none, none, none, none]) (st' := [.int (nI 144)]) bf211_0 bf211_3 rfl rfl).trans ?_
  exact bh bf211_3 bf211_5 rfl (bge_na) rfl
theorem bk211_5 {w : am_Wd} {l0 : Nat} {l1 : Int32} {s0 : Nat} : am_run 211 5 [some (.ref l0), some (.int l1), none, none, none, none] [.ref s0] w = am_run 211 8 [some (.ref l0), some (.int l1), some (.ref s0), some (.int (nI 0)), none, none] [] w := by
  refine (bu (ls'' := [some (.ref l0), some (.int l1), some (.ref s0), none, none, none]) (st' := []) bf211_5 bf211_6 rfl rfl).trans ?_
  refine (bu (ls'' := [some (.ref l0), some (.int l1), some (.ref s0), none, none, none]) (st' := [.int (nI 0)]) bf211_6 bf211_7 rfl rfl).trans ?_
  refine (bu (ls'' := [some (.ref l0), some (.int l1), some (.ref s0), some (.int (nI 0)), none, none]) (st' := []) bf211_7 bf211_8 rfl rfl).trans ?_
  rfl
theorem bk211_8 {w : am_Wd} {l0 : Nat} {l1 : Int32} {l2 : Nat} {l3 : Int32} : am_run 211 8 [some (.ref l0), some (.int l1), some (.ref l2), some (.int l3), none, none] [] w = if (nI 144) ≤ l3 then am_run 211 107 [none, none, some (.ref l2), none, none, none] [] w else am_run 211 15 [some (.ref l0), some (.int l1), some (.ref l2), some (.int l3), none, none] [] w := by
  refine (bu (ls'' := [some (.ref l0), some (.int l1), some (.ref l2), some (.int l3), none, none]) (st' := [.int l3]) bf211_8 bf211_9 rfl rfl).trans ?_
  refine (bu (ls'' := [some (.ref l0), some (.int l1), some (.ref l2), some (.int l3), none, none]) (st' := [.int (nI 144), .int l3]) bf211_9 bf211_12 rfl rfl).trans ?_
  exact bic bf211_12 rfl bf211_107 bf211_15 rfl rfl rfl
theorem bk211_107 {w : am_Wd} {l2 : Nat} : am_run 211 107 [none, none, some (.ref l2), none, none, none] [] w = some (.inl (some (.ref l2)), w) := by
  refine (bu (ls'' := [none, none, none, none, none, none]) (st' := [.ref l2]) bf211_107 bf211_108 rfl rfl).trans ?_
  exact am_e2 bf211_108 rfl (am_ge_rf w)
theorem bk211_15 {w : am_Wd} {l0 : Nat} {l1 : Int32} {l2 : Nat} {l3 : Int32} : am_run 211 15 [some (.ref l0), some (.int l1), some (.ref l2), some (.int l3), none, none] [] w = (am_gf w l0 10 3).bind fun v => am_run 211 21 [some (.ref l0), some (.int l1), some (.ref l2), some (.int l3), none, none] (v :: [.int l3, .ref l2]) w := by
  refine (bu (ls'' := [some (.ref l0), some (.int l1), some (.ref l2), some (.int l3), none, none]) (st' := [.ref l2]) bf211_15 bf211_16 rfl rfl).trans ?_
  refine (bu (ls'' := [some (.ref l0), some (.int l1), some (.ref l2), some (.int l3), none, none]) (st' := [.int l3, .ref l2]) bf211_16 bf211_17 rfl rfl).trans ?_
  refine (bu (ls'' := [some (.ref l0), some (.int l1), some (.ref l2), some (.int l3), none, none]) (st' := [.ref l0, .int l3, .ref l2]) bf211_17 bf211_18 rfl rfl).trans ?_
  exact bh bf211_18 bf211_21 rfl (fun _ _ => am_ge_rf w) rfl
theorem bk211_21 {w : am_Wd} {l0 : Nat} {l1 : Int32} {l2 : Nat} {l3 : Int32} {s0 : Nat} {s1 : Int32} {s2 : Nat} : am_run 211 21 [some (.ref l0), some (.int l1), some (.ref l2), some (.int l3), none, none] [.ref s0, .int s1, .ref s2] w = (am_ri 2 w s0 l3).bind fun v => am_run 211 23 [some (.ref l0), some (.int l1), some (.ref l2), some (.int l3), none, none] (.int v :: [.int s1, .ref s2]) w := by
  refine (bu (ls'' := [some (.ref l0), some (.int l1), some (.ref l2), some (.int l3), none, none]) (st' := [.int l3, .ref s0, .int s1, .ref s2]) bf211_21 bf211_22 rfl rfl).trans ?_
  exact bh bf211_22 bf211_23 rfl (fun _ _ => am_ge_rf w) rfl
theorem bk211_23 {w : am_Wd} {l0 : Nat} {l1 : Int32} {l2 : Nat} {l3 : Int32} {s0 : Int32} {s1 : Int32} {s2 : Nat} : am_run 211 23 [some (.ref l0), some (.int l1), some (.ref l2), some (.int l3), none, none] [.int s0, .int s1, .ref s2] w = (am_wi 2 w s2 s1 (vp_nar .boolean s0)).bind fun w' => am_run 211 24 [some (.ref l0), some (.int l1), some (.ref l2), some (.int l3), none, none] [] w' := by
  exact bh bf211_23 bf211_24 rfl (bge_wi) rfl
theorem bk211_24 {w : am_Wd} {l0 : Nat} {l1 : Int32} {l2 : Nat} {l3 : Int32} : am_run 211 24 [some (.ref l0), some (.int l1), some (.ref l2), some (.int l3), none, none] [] w = am_run 211 27 [some (.ref l0), some (.int l1), some (.ref l2), some (.int l3), some (.int (nI 0)), none] [] w := by
  refine (bu (ls'' := [some (.ref l0), some (.int l1), some (.ref l2), some (.int l3), none, none]) (st' := [.int (nI 0)]) bf211_24 bf211_25 rfl rfl).trans ?_
  refine (bu (ls'' := [some (.ref l0), some (.int l1), some (.ref l2), some (.int l3), some (.int (nI 0)), none]) (st' := []) bf211_25 bf211_27 rfl rfl).trans ?_
  rfl
theorem bk211_27 {w : am_Wd} {l0 : Nat} {l1 : Int32} {l2 : Nat} {l3 : Int32} {l4 : Int32} : am_run 211 27 [some (.ref l0), some (.int l1), some (.ref l2), some (.int l3), some (.int l4), none] [] w = if (nI 3) ≤ l4 then am_run 211 101 [some (.ref l0), some (.int l1), some (.ref l2), some (.int l3), none, none] [] w else am_run 211 33 [some (.ref l0), some (.int l1), some (.ref l2), some (.int l3), some (.int l4), none] [] w := by
  refine (bu (ls'' := [some (.ref l0), some (.int l1), some (.ref l2), some (.int l3), some (.int l4), none]) (st' := [.int l4]) bf211_27 bf211_29 rfl rfl).trans ?_
  refine (bu (ls'' := [some (.ref l0), some (.int l1), some (.ref l2), some (.int l3), some (.int l4), none]) (st' := [.int (nI 3), .int l4]) bf211_29 bf211_30 rfl rfl).trans ?_
  exact bic bf211_30 rfl bf211_101 bf211_33 rfl rfl rfl
theorem bk211_101 {w : am_Wd} {l0 : Nat} {l1 : Int32} {l2 : Nat} {l3 : Int32} : am_run 211 101 [some (.ref l0), some (.int l1), some (.ref l2), some (.int l3), none, none] [] w = am_run 211 8 [some (.ref l0), some (.int l1), some (.ref l2), some (.int (l3 + (nI 1))), none, none] [] w := by
  refine (bu (ls'' := [some (.ref l0), some (.int l1), some (.ref l2), some (.int (l3 + (nI 1))), none, none]) (st' := []) bf211_101 bf211_104 rfl rfl).trans ?_
  refine (bu (ls'' := [some (.ref l0), some (.int l1), some (.ref l2), some (.int (l3 + (nI 1))), none, none]) (st' := []) bf211_104 bf211_8 rfl rfl).trans ?_
  rfl
theorem bk211_33 {w : am_Wd} {l0 : Nat} {l1 : Int32} {l2 : Nat} {l3 : Int32} {l4 : Int32} : am_run 211 33 [some (.ref l0), some (.int l1), some (.ref l2), some (.int l3), some (.int l4), none] [] w = (am_x 174 [.ref l0, .int (l3 / (nI 4)), .int (bj_irem ((l3 + (nI 3)) + l4) (nI 4))] w).bind fun r => bct r fun v w' => am_run 211 48 [some (.ref l0), some (.int l1), some (.ref l2), some (.int l3), some (.int l4), none] (v.toList ++ []) w' := by
  refine (bu (ls'' := [some (.ref l0), some (.int l1), some (.ref l2), some (.int l3), some (.int l4), none]) (st' := [.ref l0]) bf211_33 bf211_34 rfl rfl).trans ?_
  refine (bu (ls'' := [some (.ref l0), some (.int l1), some (.ref l2), some (.int l3), some (.int l4), none]) (st' := [.int l3, .ref l0]) bf211_34 bf211_35 rfl rfl).trans ?_
  refine (bu (ls'' := [some (.ref l0), some (.int l1), some (.ref l2), some (.int l3), some (.int l4), none]) (st' := [.int (nI 4), .int l3, .ref l0]) bf211_35 bf211_36 rfl rfl).trans ?_
  refine (bu (ls'' := [some (.ref l0), some (.int l1), some (.ref l2), some (.int l3), some (.int l4), none]) (st' := [.int (l3 / (nI 4)), .ref l0]) bf211_36 bf211_37 rfl rfl).trans ?_
  refine (bu (ls'' := [some (.ref l0), some (.int l1), some (.ref l2), some (.int l3), some (.int l4), none]) (st' := [.int l3, .int (l3 / (nI 4)), .ref l0]) bf211_37 bf211_38 rfl rfl).trans ?_
  refine (bu (ls'' := [some (.ref l0), some (.int l1), some (.ref l2), some (.int l3), some (.int l4), none]) (st' := [.int (nI 3), .int l3, .int (l3 / (nI 4)), .ref l0]) bf211_38 bf211_39 rfl rfl).trans ?_
  refine (bu (ls'' := [some (.ref l0), some (.int l1), some (.ref l2), some (.int l3), some (.int l4), none]) (st' := [.int (l3 + (nI 3)), .int (l3 / (nI 4)), .ref l0]) bf211_39 bf211_40 rfl rfl).trans ?_
  refine (bu (ls'' := [some (.ref l0), some (.int l1), some (.ref l2), some (.int l3), some (.int l4), none]) (st' := [.int l4, .int (l3 + (nI 3)), .int (l3 / (nI 4)), .ref l0]) bf211_40 bf211_42 rfl rfl).trans ?_
  refine (bu (ls'' := [some (.ref l0), some (.int l1), some (.ref l2), some (.int l3), some (.int l4), none]) (st' := [.int ((l3 + (nI 3)) + l4), .int (l3 / (nI 4)), .ref l0]) bf211_42 bf211_43 rfl rfl).trans ?_
  refine (bu (ls'' := [some (.ref l0), some (.int l1), some (.ref l2), some (.int l3), some (.int l4), none]) (st' := [.int (nI 4), .int ((l3 + (nI 3)) + l4), .int (l3 / (nI 4)), .ref l0]) bf211_43 bf211_44 rfl rfl).trans ?_
  refine (bu (ls'' := [some (.ref l0), some (.int l1), some (.ref l2), some (.int l3), some (.int l4), none]) (st' := [.int (bj_irem ((l3 + (nI 3)) + l4) (nI 4)), .int (l3 / (nI 4)), .ref l0]) bf211_44 bf211_45 rfl rfl).trans ?_
  exact bkS bf211_45 bf211_48 rfl (by decide +kernel) (Nat.le_of_ble_eq_true rfl) rfl (bhd rfl)
theorem bk211_48 {w : am_Wd} {l0 : Nat} {l1 : Int32} {l2 : Nat} {l3 : Int32} {l4 : Int32} {s0 : Int32} : am_run 211 48 [some (.ref l0), some (.int l1), some (.ref l2), some (.int l3), some (.int l4), none] [.int s0] w = (am_ri 2 w l2 l3).bind fun v => am_run 211 54 [some (.ref l0), some (.int l1), some (.ref l2), some (.int l3), some (.int l4), some (.int s0)] (.int v :: [.int l3, .ref l2]) w := by
  refine (bu (ls'' := [some (.ref l0), some (.int l1), some (.ref l2), some (.int l3), some (.int l4), some (.int s0)]) (st' := []) bf211_48 bf211_50 rfl rfl).trans ?_
  refine (bu (ls'' := [some (.ref l0), some (.int l1), some (.ref l2), some (.int l3), some (.int l4), some (.int s0)]) (st' := [.ref l2]) bf211_50 bf211_51 rfl rfl).trans ?_
  refine (bu (ls'' := [some (.ref l0), some (.int l1), some (.ref l2), some (.int l3), some (.int l4), some (.int s0)]) (st' := [.int l3, .ref l2]) bf211_51 bf211_52 rfl rfl).trans ?_
  refine (bu (ls'' := [some (.ref l0), some (.int l1), some (.ref l2), some (.int l3), some (.int l4), some (.int s0)]) (st' := [.int l3, .ref l2, .int l3, .ref l2]) bf211_52 bf211_53 rfl rfl).trans ?_
  exact bh bf211_53 bf211_54 rfl (fun _ _ => am_ge_rf w) rfl
theorem bk211_54 {w : am_Wd} {l0 : Nat} {l1 : Int32} {l2 : Nat} {l3 : Int32} {l4 : Int32} {l5 : Int32} {s0 : Int32} {s1 : Int32} {s2 : Nat} : am_run 211 54 [some (.ref l0), some (.int l1), some (.ref l2), some (.int l3), some (.int l4), some (.int l5)] [.int s0, .int s1, .ref s2] w = if l5 = nI 0 then am_run 211 88 [some (.ref l0), some (.int l1), some (.ref l2), some (.int l3), some (.int l4), none] [.int s0, .int s1, .ref s2] w else am_run 211 59 [some (.ref l0), some (.int l1), some (.ref l2), some (.int l3), some (.int l4), some (.int l5)] [.int s0, .int s1, .ref s2] w := by
  refine (bu (ls'' := [some (.ref l0), some (.int l1), some (.ref l2), some (.int l3), some (.int l4), some (.int l5)]) (st' := [.int l5, .int s0, .int s1, .ref s2]) bf211_54 bf211_56 rfl rfl).trans ?_
  exact bifc bf211_56 rfl bf211_88 bf211_59 rfl rfl rfl
theorem bk211_88 {w : am_Wd} {l0 : Nat} {l1 : Int32} {l2 : Nat} {l3 : Int32} {l4 : Int32} {s0 : Int32} {s1 : Int32} {s2 : Nat} : am_run 211 88 [some (.ref l0), some (.int l1), some (.ref l2), some (.int l3), some (.int l4), none] [.int s0, .int s1, .ref s2] w = am_run 211 93 [some (.ref l0), some (.int l1), some (.ref l2), some (.int l3), some (.int l4), none] [.int (nI 1), .int s0, .int s1, .ref s2] w := by
  refine (bu (ls'' := [some (.ref l0), some (.int l1), some (.ref l2), some (.int l3), some (.int l4), none]) (st' := [.int (nI 1), .int s0, .int s1, .ref s2]) bf211_88 bf211_89 rfl rfl).trans ?_
  refine (bu (ls'' := [some (.ref l0), some (.int l1), some (.ref l2), some (.int l3), some (.int l4), none]) (st' := [.int (nI 1), .int s0, .int s1, .ref s2]) bf211_89 bf211_93 rfl rfl).trans ?_
  rfl
theorem bk211_59 {w : am_Wd} {l0 : Nat} {l1 : Int32} {l2 : Nat} {l3 : Int32} {l4 : Int32} {l5 : Int32} {s0 : Int32} {s1 : Int32} {s2 : Nat} : am_run 211 59 [some (.ref l0), some (.int l1), some (.ref l2), some (.int l3), some (.int l4), some (.int l5)] [.int s0, .int s1, .ref s2] w = if ¬ l5 = (nI 2) then am_run 211 69 [some (.ref l0), some (.int l1), some (.ref l2), some (.int l3), some (.int l4), none] [.int s0, .int s1, .ref s2] w else am_run 211 65 [some (.ref l0), some (.int l1), some (.ref l2), some (.int l3), some (.int l4), none] [.int s0, .int s1, .ref s2] w := by
  refine (bu (ls'' := [some (.ref l0), some (.int l1), some (.ref l2), some (.int l3), some (.int l4), none]) (st' := [.int l5, .int s0, .int s1, .ref s2]) bf211_59 bf211_61 rfl rfl).trans ?_
  refine (bu (ls'' := [some (.ref l0), some (.int l1), some (.ref l2), some (.int l3), some (.int l4), none]) (st' := [.int (nI 2), .int l5, .int s0, .int s1, .ref s2]) bf211_61 bf211_62 rfl rfl).trans ?_
  exact bic bf211_62 rfl bf211_69 bf211_65 rfl rfl rfl
theorem bk211_93 {w : am_Wd} {l0 : Nat} {l1 : Int32} {l2 : Nat} {l3 : Int32} {l4 : Int32} {s0 : Int32} {s1 : Int32} {s2 : Int32} {s3 : Nat} : am_run 211 93 [some (.ref l0), some (.int l1), some (.ref l2), some (.int l3), some (.int l4), none] [.int s0, .int s1, .int s2, .ref s3] w = (am_wi 2 w s3 s2 (vp_nar .boolean (s1 &&& s0))).bind fun w' => am_run 211 95 [some (.ref l0), some (.int l1), some (.ref l2), some (.int l3), some (.int l4), none] [] w' := by
  refine (bu (ls'' := [some (.ref l0), some (.int l1), some (.ref l2), some (.int l3), some (.int l4), none]) (st' := [.int (s1 &&& s0), .int s2, .ref s3]) bf211_93 bf211_94 rfl rfl).trans ?_
  exact bh bf211_94 bf211_95 rfl (bge_wi) rfl
theorem bk211_69 {w : am_Wd} {l0 : Nat} {l1 : Int32} {l2 : Nat} {l3 : Int32} {l4 : Int32} {s0 : Int32} {s1 : Int32} {s2 : Nat} : am_run 211 69 [some (.ref l0), some (.int l1), some (.ref l2), some (.int l3), some (.int l4), none] [.int s0, .int s1, .ref s2] w = am_run 211 70 [some (.ref l0), some (.int l1), some (.ref l2), some (.int l3), some (.int l4), none] [.int (nI 0), .int s0, .int s1, .ref s2] w := by
  refine (bu (ls'' := [some (.ref l0), some (.int l1), some (.ref l2), some (.int l3), some (.int l4), none]) (st' := [.int (nI 0), .int s0, .int s1, .ref s2]) bf211_69 bf211_70 rfl rfl).trans ?_
  rfl
theorem bk211_65 {w : am_Wd} {l0 : Nat} {l1 : Int32} {l2 : Nat} {l3 : Int32} {l4 : Int32} {s0 : Int32} {s1 : Int32} {s2 : Nat} : am_run 211 65 [some (.ref l0), some (.int l1), some (.ref l2), some (.int l3), some (.int l4), none] [.int s0, .int s1, .ref s2] w = am_run 211 70 [some (.ref l0), some (.int l1), some (.ref l2), some (.int l3), some (.int l4), none] [.int (nI 1), .int s0, .int s1, .ref s2] w := by
  refine (bu (ls'' := [some (.ref l0), some (.int l1), some (.ref l2), some (.int l3), some (.int l4), none]) (st' := [.int (nI 1), .int s0, .int s1, .ref s2]) bf211_65 bf211_66 rfl rfl).trans ?_
  refine (bu (ls'' := [some (.ref l0), some (.int l1), some (.ref l2), some (.int l3), some (.int l4), none]) (st' := [.int (nI 1), .int s0, .int s1, .ref s2]) bf211_66 bf211_70 rfl rfl).trans ?_
  rfl
theorem bk211_95 {w : am_Wd} {l0 : Nat} {l1 : Int32} {l2 : Nat} {l3 : Int32} {l4 : Int32} : am_run 211 95 [some (.ref l0), some (.int l1), some (.ref l2), some (.int l3), some (.int l4), none] [] w = am_run 211 27 [some (.ref l0), some (.int l1), some (.ref l2), some (.int l3), some (.int (l4 + (nI 1))), none] [] w := by
  refine (bu (ls'' := [some (.ref l0), some (.int l1), some (.ref l2), some (.int l3), some (.int (l4 + (nI 1))), none]) (st' := []) bf211_95 bf211_98 rfl rfl).trans ?_
  refine (bu (ls'' := [some (.ref l0), some (.int l1), some (.ref l2), some (.int l3), some (.int (l4 + (nI 1))), none]) (st' := []) bf211_98 bf211_27 rfl rfl).trans ?_
  rfl
theorem bk211_70 {w : am_Wd} {l0 : Nat} {l1 : Int32} {l2 : Nat} {l3 : Int32} {l4 : Int32} {s0 : Int32} {s1 : Int32} {s2 : Int32} {s3 : Nat} : am_run 211 70 [some (.ref l0), some (.int l1), some (.ref l2), some (.int l3), some (.int l4), none] [.int s0, .int s1, .int s2, .ref s3] w = if ¬ ((bj_ishr l1 l4) &&& (nI 1)) = (nI 1) then am_run 211 84 [some (.ref l0), some (.int l1), some (.ref l2), some (.int l3), some (.int l4), none] [.int s0, .int s1, .int s2, .ref s3] w else am_run 211 80 [some (.ref l0), some (.int l1), some (.ref l2), some (.int l3), some (.int l4), none] [.int s0, .int s1, .int s2, .ref s3] w := by
  refine (bu (ls'' := [some (.ref l0), some (.int l1), some (.ref l2), some (.int l3), some (.int l4), none]) (st' := [.int l1, .int s0, .int s1, .int s2, .ref s3]) bf211_70 bf211_71 rfl rfl).trans ?_
  refine (bu (ls'' := [some (.ref l0), some (.int l1), some (.ref l2), some (.int l3), some (.int l4), none]) (st' := [.int l4, .int l1, .int s0, .int s1, .int s2, .ref s3]) bf211_71 bf211_73 rfl rfl).trans ?_
  refine (bu (ls'' := [some (.ref l0), some (.int l1), some (.ref l2), some (.int l3), some (.int l4), none]) (st' := [.int (bj_ishr l1 l4), .int s0, .int s1, .int s2, .ref s3]) bf211_73 bf211_74 rfl rfl).trans ?_
  refine (bu (ls'' := [some (.ref l0), some (.int l1), some (.ref l2), some (.int l3), some (.int l4), none]) (st' := [.int (nI 1), .int (bj_ishr l1 l4), .int s0, .int s1, .int s2, .ref s3]) bf211_74 bf211_75 rfl rfl).trans ?_
  refine (bu (ls'' := [some (.ref l0), some (.int l1), some (.ref l2), some (.int l3), some (.int l4), none]) (st' := [.int ((bj_ishr l1 l4) &&& (nI 1)), .int s0, .int s1, .int s2, .ref s3]) bf211_75 bf211_76 rfl rfl).trans ?_
  refine (bu (ls'' := [some (.ref l0), some (.int l1), some (.ref l2), some (.int l3), some (.int l4), none]) (st' := [.int (nI 1), .int ((bj_ishr l1 l4) &&& (nI 1)), .int s0, .int s1, .int s2, .ref s3]) bf211_76 bf211_77 rfl rfl).trans ?_
  exact bic bf211_77 rfl bf211_84 bf211_80 rfl rfl rfl
theorem bk211_84 {w : am_Wd} {l0 : Nat} {l1 : Int32} {l2 : Nat} {l3 : Int32} {l4 : Int32} {s0 : Int32} {s1 : Int32} {s2 : Int32} {s3 : Nat} : am_run 211 84 [some (.ref l0), some (.int l1), some (.ref l2), some (.int l3), some (.int l4), none] [.int s0, .int s1, .int s2, .ref s3] w = am_run 211 85 [some (.ref l0), some (.int l1), some (.ref l2), some (.int l3), some (.int l4), none] [.int (nI 0), .int s0, .int s1, .int s2, .ref s3] w := by
  refine (bu (ls'' := [some (.ref l0), some (.int l1), some (.ref l2), some (.int l3), some (.int l4), none]) (st' := [.int (nI 0), .int s0, .int s1, .int s2, .ref s3]) bf211_84 bf211_85 rfl rfl).trans ?_
  rfl
theorem bk211_80 {w : am_Wd} {l0 : Nat} {l1 : Int32} {l2 : Nat} {l3 : Int32} {l4 : Int32} {s0 : Int32} {s1 : Int32} {s2 : Int32} {s3 : Nat} : am_run 211 80 [some (.ref l0), some (.int l1), some (.ref l2), some (.int l3), some (.int l4), none] [.int s0, .int s1, .int s2, .ref s3] w = am_run 211 85 [some (.ref l0), some (.int l1), some (.ref l2), some (.int l3), some (.int l4), none] [.int (nI 1), .int s0, .int s1, .int s2, .ref s3] w := by
  refine (bu (ls'' := [some (.ref l0), some (.int l1), some (.ref l2), some (.int l3), some (.int l4), none]) (st' := [.int (nI 1), .int s0, .int s1, .int s2, .ref s3]) bf211_80 bf211_81 rfl rfl).trans ?_
  refine (bu (ls'' := [some (.ref l0), some (.int l1), some (.ref l2), some (.int l3), some (.int l4), none]) (st' := [.int (nI 1), .int s0, .int s1, .int s2, .ref s3]) bf211_81 bf211_85 rfl rfl).trans ?_
  rfl
theorem bk211_85 {w : am_Wd} {l0 : Nat} {l1 : Int32} {l2 : Nat} {l3 : Int32} {l4 : Int32} {s0 : Int32} {s1 : Int32} {s2 : Int32} {s3 : Int32} {s4 : Nat} : am_run 211 85 [some (.ref l0), some (.int l1), some (.ref l2), some (.int l3), some (.int l4), none] [.int s0, .int s1, .int s2, .int s3, .ref s4] w = if ¬ s1 = s0 then am_run 211 92 [some (.ref l0), some (.int l1), some (.ref l2), some (.int l3), some (.int l4), none] [.int s2, .int s3, .ref s4] w else am_run 211 88 [some (.ref l0), some (.int l1), some (.ref l2), some (.int l3), some (.int l4), none] [.int s2, .int s3, .ref s4] w := by
  exact bic bf211_85 rfl bf211_92 bf211_88 rfl rfl rfl
theorem bk211_92 {w : am_Wd} {l0 : Nat} {l1 : Int32} {l2 : Nat} {l3 : Int32} {l4 : Int32} {s0 : Int32} {s1 : Int32} {s2 : Nat} : am_run 211 92 [some (.ref l0), some (.int l1), some (.ref l2), some (.int l3), some (.int l4), none] [.int s0, .int s1, .ref s2] w = am_run 211 93 [some (.ref l0), some (.int l1), some (.ref l2), some (.int l3), some (.int l4), none] [.int (nI 0), .int s0, .int s1, .ref s2] w := by
  refine (bu (ls'' := [some (.ref l0), some (.int l1), some (.ref l2), some (.int l3), some (.int l4), none]) (st' := [.int (nI 0), .int s0, .int s1, .ref s2]) bf211_92 bf211_93 rfl rfl).trans ?_
  rfl
theorem bf212_0 : am_fetch (am_mth 212) 0 = some (.aload_n 0, 1, [], []) := by decide +kernel
theorem bf212_1 : am_fetch (am_mth 212) 1 = some (.iload_n 1, 1, [], []) := by decide +kernel
theorem bf212_2 : am_fetch (am_mth 212) 2 = some (.invokestatic 76, 3, [0, 97, 1, 1242, 1243, 48], []) := by decide +kernel
theorem bf212_5 : am_fetch (am_mth 212) 5 = some (.ifCond .ne 10, 3, [], []) := by decide +kernel
theorem bf212_8 : am_fetch (am_mth 212) 8 = some (.iload_n 2, 1, [], []) := by decide +kernel
theorem bf212_9 : am_fetch (am_mth 212) 9 = some (.invokestatic 80, 3, [0, 98, 1, 1248, 1249, 48], []) := by decide +kernel
theorem bf212_12 : am_fetch (am_mth 212) 12 = some (.ifCond .eq 7, 3, [], []) := by decide +kernel
theorem bf212_15 : am_fetch (am_mth 212) 15 = some (.iconst 1, 1, [], []) := by decide +kernel
theorem bf212_16 : am_fetch (am_mth 212) 16 = some (.goto 4, 3, [], []) := by decide +kernel
theorem bf212_19 : am_fetch (am_mth 212) 19 = some (.iconst 0, 1, [], []) := by decide +kernel
theorem bf212_20 : am_fetch (am_mth 212) 20 = some (.iconst 1, 1, [], []) := by decide +kernel
theorem bf212_21 : am_fetch (am_mth 212) 21 = some (.invokevirtual 83, 3, [0, 96, 2, 11, 1251, 1253, 18, 48], []) := by decide +kernel
theorem bf212_24 : am_fetch (am_mth 212) 24 = some (.ifCond .ne 25, 3, [], []) := by decide +kernel
theorem bf212_27 : am_fetch (am_mth 212) 27 = some (.aload_n 0, 1, [], []) := by decide +kernel
theorem bf212_28 : am_fetch (am_mth 212) 28 = some (.iload_n 3, 1, [], []) := by decide +kernel
theorem bf212_29 : am_fetch (am_mth 212) 29 = some (.iconst 0, 1, [], []) := by decide +kernel
theorem bf212_30 : am_fetch (am_mth 212) 30 = some (.iconst 2, 1, [], []) := by decide +kernel
theorem bf212_31 : am_fetch (am_mth 212) 31 = some (.invokestatic 42, 3, [0, 39, 3, 1245, 1246, 48], []) := by decide +kernel
theorem bf212_34 : am_fetch (am_mth 212) 34 = some (.ifCond .ne 7, 3, [], []) := by decide +kernel
theorem bf212_37 : am_fetch (am_mth 212) 37 = some (.iconst 1, 1, [], []) := by decide +kernel
theorem bf212_38 : am_fetch (am_mth 212) 38 = some (.goto 4, 3, [], []) := by decide +kernel
theorem bf212_41 : am_fetch (am_mth 212) 41 = some (.iconst 0, 1, [], []) := by decide +kernel
theorem bf212_42 : am_fetch (am_mth 212) 42 = some (.iconst 2, 1, [], []) := by decide +kernel
theorem bf212_43 : am_fetch (am_mth 212) 43 = some (.invokevirtual 38, 3, [0, 40, 2, 11, 1255, 1257, 19, 48], []) := by decide +kernel
theorem bf212_46 : am_fetch (am_mth 212) 46 = some (.ifCond .eq 7, 3, [], []) := by decide +kernel
theorem bf212_49 : am_fetch (am_mth 212) 49 = some (.iconst 0, 1, [], [0, 1, 2, 3]) := by decide +kernel
theorem bf212_50 : am_fetch (am_mth 212) 50 = some (.goto 10, 3, [], [0, 1, 2, 3]) := by decide +kernel
theorem bf212_53 : am_fetch (am_mth 212) 53 = some (.aload_n 0, 1, [], []) := by decide +kernel
theorem bf212_54 : am_fetch (am_mth 212) 54 = some (.iload_n 1, 1, [], [0]) := by decide +kernel
theorem bf212_55 : am_fetch (am_mth 212) 55 = some (.iload_n 2, 1, [], [0, 1]) := by decide +kernel
theorem bf212_56 : am_fetch (am_mth 212) 56 = some (.iload_n 3, 1, [], [0, 1, 2]) := by decide +kernel
theorem bf212_57 : am_fetch (am_mth 212) 57 = some (.invokevirtual 228, 3, [0, 181, 3, 11, 1557, 1559, 35, 48], [0, 1, 2, 3]) := by decide +kernel
theorem bf212_60 : am_fetch (am_mth 212) 60 = some (.ireturn, 1, [0], [0, 1, 2, 3]) := by decide +kernel
theorem bk212_0 {w : am_Wd} {l0 : Nat} {l1 : Int32} {l2 : Int32} {l3 : Int32} : am_run 212 0 [some (.ref l0), some (.int l1), some (.int l2), some (.int l3)] [] w = (am_x 97 [.int l1] w).bind fun r => bct r fun v w' => am_run 212 5 [some (.ref l0), some (.int l1), some (.int l2), some (.int l3)] (v.toList ++ [.ref l0]) w' := by
  refine (bu (ls'' := [some (.ref l0), some (.int l1), some (.int l2), some (.int l3)]) (st' := [.ref l0]) bf212_0 bf212_1 rfl rfl).trans ?_
  refine (bu (ls'' := [some (.ref l0), some (.int l1), some (.int l2), some (.int l3)]) (st' := [.int l1, .ref l0]) bf212_1 bf212_2 rfl rfl).trans ?_
  exact bkS bf212_2 bf212_5 rfl (by decide +kernel) (Nat.le_of_ble_eq_true rfl) rfl (bhd rfl)
theorem bk212_5 {w : am_Wd} {l0 : Nat} {l1 : Int32} {l2 : Int32} {l3 : Int32} {s0 : Int32} {s1 : Nat} : am_run 212 5 [some (.ref l0), some (.int l1), some (.int l2), some (.int l3)] [.int s0, .ref s1] w = if ¬ s0 = nI 0 then am_run 212 15 [some (.ref l0), some (.int l1), some (.int l2), some (.int l3)] [.ref s1] w else am_run 212 8 [some (.ref l0), some (.int l1), some (.int l2), some (.int l3)] [.ref s1] w := by
  exact bifc bf212_5 rfl bf212_15 bf212_8 rfl rfl rfl
theorem bk212_15 {w : am_Wd} {l0 : Nat} {l1 : Int32} {l2 : Int32} {l3 : Int32} {s0 : Nat} : am_run 212 15 [some (.ref l0), some (.int l1), some (.int l2), some (.int l3)] [.ref s0] w = am_run 212 20 [some (.ref l0), some (.int l1), some (.int l2), some (.int l3)] [.int (nI 1), .ref s0] w := by
  refine (bu (ls'' := [some (.ref l0), some (.int l1), some (.int l2), some (.int l3)]) (st' := [.int (nI 1), .ref s0]) bf212_15 bf212_16 rfl rfl).trans ?_
  refine (bu (ls'' := [some (.ref l0), some (.int l1), some (.int l2), some (.int l3)]) (st' := [.int (nI 1), .ref s0]) bf212_16 bf212_20 rfl rfl).trans ?_
  rfl
theorem bk212_8 {w : am_Wd} {l0 : Nat} {l1 : Int32} {l2 : Int32} {l3 : Int32} {s0 : Nat} : am_run 212 8 [some (.ref l0), some (.int l1), some (.int l2), some (.int l3)] [.ref s0] w = (am_x 98 [.int l2] w).bind fun r => bct r fun v w' => am_run 212 12 [some (.ref l0), some (.int l1), some (.int l2), some (.int l3)] (v.toList ++ [.ref s0]) w' := by
  refine (bu (ls'' := [some (.ref l0), some (.int l1), some (.int l2), some (.int l3)]) (st' := [.int l2, .ref s0]) bf212_8 bf212_9 rfl rfl).trans ?_
  exact bkS bf212_9 bf212_12 rfl (by decide +kernel) (Nat.le_of_ble_eq_true rfl) rfl (bhd rfl)
theorem bk212_20 {w : am_Wd} {l0 : Nat} {l1 : Int32} {l2 : Int32} {l3 : Int32} {s0 : Int32} {s1 : Nat} : am_run 212 20 [some (.ref l0), some (.int l1), some (.int l2), some (.int l3)] [.int s0, .ref s1] w = (am_kf w s1 11).bind fun _ => (am_x 96 [.ref s1, .int s0, .int (nI 1)] w).bind fun r => bct r fun v w' => am_run 212 24 [some (.ref l0), some (.int l1), some (.int l2), some (.int l3)] (v.toList ++ []) w' := by
  refine (bu (ls'' := [some (.ref l0), some (.int l1), some (.int l2), some (.int l3)]) (st' := [.int (nI 1), .int s0, .ref s1]) bf212_20 bf212_21 rfl rfl).trans ?_
  exact bkV bf212_21 bf212_24 rfl (by decide +kernel) (Nat.le_of_ble_eq_true rfl) rfl (bhd rfl)
theorem bk212_12 {w : am_Wd} {l0 : Nat} {l1 : Int32} {l2 : Int32} {l3 : Int32} {s0 : Int32} {s1 : Nat} : am_run 212 12 [some (.ref l0), some (.int l1), some (.int l2), some (.int l3)] [.int s0, .ref s1] w = if s0 = nI 0 then am_run 212 19 [some (.ref l0), some (.int l1), some (.int l2), some (.int l3)] [.ref s1] w else am_run 212 15 [some (.ref l0), some (.int l1), some (.int l2), some (.int l3)] [.ref s1] w := by
  exact bifc bf212_12 rfl bf212_19 bf212_15 rfl rfl rfl
theorem bk212_24 {w : am_Wd} {l0 : Nat} {l1 : Int32} {l2 : Int32} {l3 : Int32} {s0 : Int32} : am_run 212 24 [some (.ref l0), some (.int l1), some (.int l2), some (.int l3)] [.int s0] w = if ¬ s0 = nI 0 then am_run 212 49 [none, none, none, none] [] w else am_run 212 27 [some (.ref l0), some (.int l1), some (.int l2), some (.int l3)] [] w := by
  exact bifc bf212_24 rfl bf212_49 bf212_27 rfl rfl rfl
theorem bk212_19 {w : am_Wd} {l0 : Nat} {l1 : Int32} {l2 : Int32} {l3 : Int32} {s0 : Nat} : am_run 212 19 [some (.ref l0), some (.int l1), some (.int l2), some (.int l3)] [.ref s0] w = am_run 212 20 [some (.ref l0), some (.int l1), some (.int l2), some (.int l3)] [.int (nI 0), .ref s0] w := by
  refine (bu (ls'' := [some (.ref l0), some (.int l1), some (.int l2), some (.int l3)]) (st' := [.int (nI 0), .ref s0]) bf212_19 bf212_20 rfl rfl).trans ?_
  rfl
theorem bk212_49 {w : am_Wd}  : am_run 212 49 [none, none, none, none] [] w = am_run 212 60 [none, none, none, none] [.int (nI 0)] w := by
  refine (bu (ls'' := [none, none, none, none]) (st' := [.int (nI 0)]) bf212_49 bf212_50 rfl rfl).trans ?_
  refine (bu (ls'' := [none, none, none, none]) (st' := [.int (nI 0)]) bf212_50 bf212_60 rfl rfl).trans ?_
  rfl
theorem bk212_27 {w : am_Wd} {l0 : Nat} {l1 : Int32} {l2 : Int32} {l3 : Int32} : am_run 212 27 [some (.ref l0), some (.int l1), some (.int l2), some (.int l3)] [] w = (am_x 39 [.int l3, .int (nI 0), .int (nI 2)] w).bind fun r => bct r fun v w' => am_run 212 34 [some (.ref l0), some (.int l1), some (.int l2), some (.int l3)] (v.toList ++ [.ref l0]) w' := by
  refine (bu (ls'' := [some (.ref l0), some (.int l1), some (.int l2), some (.int l3)]) (st' := [.ref l0]) bf212_27 bf212_28 rfl rfl).trans ?_
  refine (bu (ls'' := [some (.ref l0), some (.int l1), some (.int l2), some (.int l3)]) (st' := [.int l3, .ref l0]) bf212_28 bf212_29 rfl rfl).trans ?_
  refine (bu (ls'' := [some (.ref l0), some (.int l1), some (.int l2), some (.int l3)]) (st' := [.int (nI 0), .int l3, .ref l0]) bf212_29 bf212_30 rfl rfl).trans ?_
  refine (bu (ls'' := [some (.ref l0), some (.int l1), some (.int l2), some (.int l3)]) (st' := [.int (nI 2), .int (nI 0), .int l3, .ref l0]) bf212_30 bf212_31 rfl rfl).trans ?_
  exact bkS bf212_31 bf212_34 rfl (by decide +kernel) (Nat.le_of_ble_eq_true rfl) rfl (bhd rfl)
theorem bk212_60 {w : am_Wd} {s0 : Int32} : am_run 212 60 [none, none, none, none] [.int s0] w = some (.inl (some (.int s0)), w) := by
  exact am_e2 bf212_60 rfl (am_ge_rf w)
theorem bk212_34 {w : am_Wd} {l0 : Nat} {l1 : Int32} {l2 : Int32} {l3 : Int32} {s0 : Int32} {s1 : Nat} : am_run 212 34 [some (.ref l0), some (.int l1), some (.int l2), some (.int l3)] [.int s0, .ref s1] w = if ¬ s0 = nI 0 then am_run 212 41 [some (.ref l0), some (.int l1), some (.int l2), some (.int l3)] [.ref s1] w else am_run 212 37 [some (.ref l0), some (.int l1), some (.int l2), some (.int l3)] [.ref s1] w := by
  exact bifc bf212_34 rfl bf212_41 bf212_37 rfl rfl rfl
theorem bk212_41 {w : am_Wd} {l0 : Nat} {l1 : Int32} {l2 : Int32} {l3 : Int32} {s0 : Nat} : am_run 212 41 [some (.ref l0), some (.int l1), some (.int l2), some (.int l3)] [.ref s0] w = am_run 212 42 [some (.ref l0), some (.int l1), some (.int l2), some (.int l3)] [.int (nI 0), .ref s0] w := by
  refine (bu (ls'' := [some (.ref l0), some (.int l1), some (.int l2), some (.int l3)]) (st' := [.int (nI 0), .ref s0]) bf212_41 bf212_42 rfl rfl).trans ?_
  rfl
theorem bk212_37 {w : am_Wd} {l0 : Nat} {l1 : Int32} {l2 : Int32} {l3 : Int32} {s0 : Nat} : am_run 212 37 [some (.ref l0), some (.int l1), some (.int l2), some (.int l3)] [.ref s0] w = am_run 212 42 [some (.ref l0), some (.int l1), some (.int l2), some (.int l3)] [.int (nI 1), .ref s0] w := by
  refine (bu (ls'' := [some (.ref l0), some (.int l1), some (.int l2), some (.int l3)]) (st' := [.int (nI 1), .ref s0]) bf212_37 bf212_38 rfl rfl).trans ?_
  refine (bu (ls'' := [some (.ref l0), some (.int l1), some (.int l2), some (.int l3)]) (st' := [.int (nI 1), .ref s0]) bf212_38 bf212_42 rfl rfl).trans ?_
  rfl
theorem bk212_42 {w : am_Wd} {l0 : Nat} {l1 : Int32} {l2 : Int32} {l3 : Int32} {s0 : Int32} {s1 : Nat} : am_run 212 42 [some (.ref l0), some (.int l1), some (.int l2), some (.int l3)] [.int s0, .ref s1] w = (am_kf w s1 11).bind fun _ => (am_x 40 [.ref s1, .int s0, .int (nI 2)] w).bind fun r => bct r fun v w' => am_run 212 46 [some (.ref l0), some (.int l1), some (.int l2), some (.int l3)] (v.toList ++ []) w' := by
  refine (bu (ls'' := [some (.ref l0), some (.int l1), some (.int l2), some (.int l3)]) (st' := [.int (nI 2), .int s0, .ref s1]) bf212_42 bf212_43 rfl rfl).trans ?_
  exact bkV bf212_43 bf212_46 rfl (by decide +kernel) (Nat.le_of_ble_eq_true rfl) rfl (bhd rfl)
theorem bk212_46 {w : am_Wd} {l0 : Nat} {l1 : Int32} {l2 : Int32} {l3 : Int32} {s0 : Int32} : am_run 212 46 [some (.ref l0), some (.int l1), some (.int l2), some (.int l3)] [.int s0] w = if s0 = nI 0 then am_run 212 53 [some (.ref l0), some (.int l1), some (.int l2), some (.int l3)] [] w else am_run 212 49 [none, none, none, none] [] w := by
  exact bifc bf212_46 rfl bf212_53 bf212_49 rfl rfl rfl
theorem bk212_53 {w : am_Wd} {l0 : Nat} {l1 : Int32} {l2 : Int32} {l3 : Int32} : am_run 212 53 [some (.ref l0), some (.int l1), some (.int l2), some (.int l3)] [] w = (am_kf w l0 11).bind fun _ => (am_x 181 [.ref l0, .int l1, .int l2, .int l3] w).bind fun r => bct r fun v w' => am_run 212 60 [none, none, none, none] (v.toList ++ []) w' := by
  refine (bu (ls'' := [none, some (.int l1), some (.int l2), some (.int l3)]) (st' := [.ref l0]) bf212_53 bf212_54 rfl rfl).trans ?_
  refine (bu (ls'' := [none, none, some (.int l2), some (.int l3)]) (st' := [.int l1, .ref l0]) bf212_54 bf212_55 rfl rfl).trans ?_
  refine (bu (ls'' := [none, none, none, some (.int l3)]) (st' := [.int l2, .int l1, .ref l0]) bf212_55 bf212_56 rfl rfl).trans ?_
  refine (bu (ls'' := [none, none, none, none]) (st' := [.int l3, .int l2, .int l1, .ref l0]) bf212_56 bf212_57 rfl rfl).trans ?_
  exact bkV bf212_57 bf212_60 rfl (by decide +kernel) (Nat.le_of_ble_eq_true rfl) rfl (bhd rfl)
theorem bf213_0 : am_fetch (am_mth 213) 0 = some (.iconst 0, 1, [], [2, 3, 4]) := by decide +kernel
theorem bf213_1 : am_fetch (am_mth 213) 1 = some (.istore_n 2, 1, [], [2, 3, 4]) := by decide +kernel
theorem bf213_2 : am_fetch (am_mth 213) 2 = some (.iconst 0, 1, [], [3, 4]) := by decide +kernel
theorem bf213_3 : am_fetch (am_mth 213) 3 = some (.istore_n 3, 1, [], [3, 4]) := by decide +kernel
theorem bf213_4 : am_fetch (am_mth 213) 4 = some (.iload_n 3, 1, [], [4]) := by decide +kernel
theorem bf213_5 : am_fetch (am_mth 213) 5 = some (.bipush 36, 2, [], [4]) := by decide +kernel
theorem bf213_7 : am_fetch (am_mth 213) 7 = some (.if_icmp .ge 55, 3, [], [4]) := by decide +kernel
theorem bf213_10 : am_fetch (am_mth 213) 10 = some (.iconst 0, 1, [], [4]) := by decide +kernel
theorem bf213_11 : am_fetch (am_mth 213) 11 = some (.istore 4, 2, [], [4]) := by decide +kernel
theorem bf213_13 : am_fetch (am_mth 213) 13 = some (.iload 4, 2, [], []) := by decide +kernel
theorem bf213_15 : am_fetch (am_mth 213) 15 = some (.iconst 2, 1, [], []) := by decide +kernel
theorem bf213_16 : am_fetch (am_mth 213) 16 = some (.if_icmp .ge 40, 3, [], []) := by decide +kernel
theorem bf213_19 : am_fetch (am_mth 213) 19 = some (.iload_n 2, 1, [], []) := by decide +kernel
theorem bf213_20 : am_fetch (am_mth 213) 20 = some (.aload_n 0, 1, [], [2]) := by decide +kernel
theorem bf213_21 : am_fetch (am_mth 213) 21 = some (.getfield 15, 3, [0, 11, 7, 1204], [2]) := by decide +kernel
theorem bf213_24 : am_fetch (am_mth 213) 24 = some (.iload_n 3, 1, [], [2]) := by decide +kernel
theorem bf213_25 : am_fetch (am_mth 213) 25 = some (.aaload, 1, [], [2]) := by decide +kernel
theorem bf213_26 : am_fetch (am_mth 213) 26 = some (.iload 4, 2, [], [2]) := by decide +kernel
theorem bf213_28 : am_fetch (am_mth 213) 28 = some (.iaload, 1, [], [2]) := by decide +kernel
theorem bf213_29 : am_fetch (am_mth 213) 29 = some (.iconst 2, 1, [], [2]) := by decide +kernel
theorem bf213_30 : am_fetch (am_mth 213) 30 = some (.if_icmp .ne 17, 3, [], [2]) := by decide +kernel
theorem bf213_33 : am_fetch (am_mth 213) 33 = some (.aload_n 0, 1, [], [2]) := by decide +kernel
theorem bf213_34 : am_fetch (am_mth 213) 34 = some (.iload_n 3, 1, [], [2]) := by decide +kernel
theorem bf213_35 : am_fetch (am_mth 213) 35 = some (.iload 4, 2, [], [2]) := by decide +kernel
theorem bf213_37 : am_fetch (am_mth 213) 37 = some (.invokevirtual 57, 3, [0, 42, 2, 11, 1446, 1448, 32, 48], [2]) := by decide +kernel
theorem bf213_40 : am_fetch (am_mth 213) 40 = some (.ifCond .eq 7, 3, [], [2]) := by decide +kernel
theorem bf213_43 : am_fetch (am_mth 213) 43 = some (.iconst 1, 1, [], [2]) := by decide +kernel
theorem bf213_44 : am_fetch (am_mth 213) 44 = some (.goto 4, 3, [], [2]) := by decide +kernel
theorem bf213_47 : am_fetch (am_mth 213) 47 = some (.iconst 0, 1, [], [2]) := by decide +kernel
theorem bf213_48 : am_fetch (am_mth 213) 48 = some (.iadd, 1, [], [2]) := by decide +kernel
theorem bf213_49 : am_fetch (am_mth 213) 49 = some (.istore_n 2, 1, [], [2]) := by decide +kernel
theorem bf213_50 : am_fetch (am_mth 213) 50 = some (.iinc 4 1, 3, [], []) := by decide +kernel
theorem bf213_53 : am_fetch (am_mth 213) 53 = some (.goto (-40), 3, [], []) := by decide +kernel
theorem bf213_56 : am_fetch (am_mth 213) 56 = some (.iinc 3 1, 3, [], [4]) := by decide +kernel
theorem bf213_59 : am_fetch (am_mth 213) 59 = some (.goto (-55), 3, [], [4]) := by decide +kernel
theorem bf213_62 : am_fetch (am_mth 213) 62 = some (.bipush 12, 2, [], [3, 4]) := by decide +kernel
theorem bf213_64 : am_fetch (am_mth 213) 64 = some (.newarray .int, 2, [0, 108], [3, 4]) := by decide +kernel
theorem bf213_66 : am_fetch (am_mth 213) 66 = some (.dup, 1, [], [3, 4]) := by decide +kernel
theorem bf213_67 : am_fetch (am_mth 213) 67 = some (.iconst 0, 1, [], [3, 4]) := by decide +kernel
theorem bf213_68 : am_fetch (am_mth 213) 68 = some (.aload_n 0, 1, [], [3, 4]) := by decide +kernel
theorem bf213_69 : am_fetch (am_mth 213) 69 = some (.getfield 54, 3, [0, 11, 1, 1198], [3, 4]) := by decide +kernel
theorem bf213_72 : am_fetch (am_mth 213) 72 = some (.iastore, 1, [], [3, 4]) := by decide +kernel
theorem bf213_73 : am_fetch (am_mth 213) 73 = some (.dup, 1, [], [3, 4]) := by decide +kernel
theorem bf213_74 : am_fetch (am_mth 213) 74 = some (.iconst 1, 1, [], [3, 4]) := by decide +kernel
theorem bf213_75 : am_fetch (am_mth 213) 75 = some (.aload_n 0, 1, [], [3, 4]) := by decide +kernel
theorem bf213_76 : am_fetch (am_mth 213) 76 = some (.getfield 54, 3, [0, 11, 1, 1198], [3, 4]) := by decide +kernel
theorem bf213_79 : am_fetch (am_mth 213) 79 = some (.bipush 60, 2, [], [3, 4]) := by decide +kernel
theorem bf213_81 : am_fetch (am_mth 213) 81 = some (.idiv, 1, [], [3, 4]) := by decide +kernel
theorem bf213_82 : am_fetch (am_mth 213) 82 = some (.bipush 24, 2, [], [3, 4]) := by decide +kernel
theorem bf213_84 : am_fetch (am_mth 213) 84 = some (.irem, 1, [], [3, 4]) := by decide +kernel
theorem bf213_85 : am_fetch (am_mth 213) 85 = some (.iastore, 1, [], [3, 4]) := by decide +kernel
theorem bf213_86 : am_fetch (am_mth 213) 86 = some (.dup, 1, [], [3, 4]) := by decide +kernel
theorem bf213_87 : am_fetch (am_mth 213) 87 = some (.iconst 2, 1, [], [3, 4]) := by decide +kernel
theorem bf213_88 : am_fetch (am_mth 213) 88 = some (.aload_n 0, 1, [], [3, 4]) := by decide +kernel
theorem bf213_89 : am_fetch (am_mth 213) 89 = some (.iconst 1, 1, [], [3, 4]) := by decide +kernel
theorem bf213_90 : am_fetch (am_mth 213) 90 = some (.invokevirtual 90, 3, [0, 177, 1, 11, 1276, 1278, 20, 48], [3, 4]) := by decide +kernel
theorem bf213_93 : am_fetch (am_mth 213) 93 = some (.iastore, 1, [], [3, 4]) := by decide +kernel
theorem bf213_94 : am_fetch (am_mth 213) 94 = some (.dup, 1, [], [3, 4]) := by decide +kernel
theorem bf213_95 : am_fetch (am_mth 213) 95 = some (.iconst 3, 1, [], [3, 4]) := by decide +kernel
theorem bf213_96 : am_fetch (am_mth 213) 96 = some (.aload_n 0, 1, [], [3, 4]) := by decide +kernel
theorem bf213_97 : am_fetch (am_mth 213) 97 = some (.iconst 2, 1, [], [3, 4]) := by decide +kernel
theorem bf213_98 : am_fetch (am_mth 213) 98 = some (.invokevirtual 90, 3, [0, 177, 1, 11, 1276, 1278, 20, 48], [3, 4]) := by decide +kernel
theorem bf213_101 : am_fetch (am_mth 213) 101 = some (.iastore, 1, [], [3, 4]) := by decide +kernel
theorem bf213_102 : am_fetch (am_mth 213) 102 = some (.dup, 1, [], [3, 4]) := by decide +kernel
theorem bf213_103 : am_fetch (am_mth 213) 103 = some (.iconst 4, 1, [], [3, 4]) := by decide +kernel
theorem bf213_104 : am_fetch (am_mth 213) 104 = some (.iload_n 2, 1, [], [3, 4]) := by decide +kernel
theorem bf213_105 : am_fetch (am_mth 213) 105 = some (.iastore, 1, [], [2, 3, 4]) := by decide +kernel
theorem bf213_106 : am_fetch (am_mth 213) 106 = some (.dup, 1, [], [2, 3, 4]) := by decide +kernel
theorem bf213_107 : am_fetch (am_mth 213) 107 = some (.iconst 5, 1, [], [2, 3, 4]) := by decide +kernel
theorem bf213_108 : am_fetch (am_mth 213) 108 = some (.aload_n 0, 1, [], [2, 3, 4]) := by decide +kernel
theorem bf213_109 : am_fetch (am_mth 213) 109 = some (.getfield 21, 3, [0, 11, 9, 1206], [2, 3, 4]) := by decide +kernel
theorem bf213_112 : am_fetch (am_mth 213) 112 = some (.invokestatic 93, 3, [0, 44, 1, 1284, 1285, 48], [2, 3, 4]) := by decide +kernel
theorem bf213_115 : am_fetch (am_mth 213) 115 = some (.iastore, 1, [], [2, 3, 4]) := by decide +kernel
theorem bf213_116 : am_fetch (am_mth 213) 116 = some (.dup, 1, [], [2, 3, 4]) := by decide +kernel
theorem bf213_117 : am_fetch (am_mth 213) 117 = some (.bipush 6, 2, [], [2, 3, 4]) := by decide +kernel
theorem bf213_119 : am_fetch (am_mth 213) 119 = some (.aload_n 0, 1, [], [2, 3, 4]) := by decide +kernel
theorem bf213_120 : am_fetch (am_mth 213) 120 = some (.getfield 25, 3, [0, 11, 10, 1207], [2, 3, 4]) := by decide +kernel
theorem bf213_123 : am_fetch (am_mth 213) 123 = some (.invokestatic 93, 3, [0, 44, 1, 1284, 1285, 48], [2, 3, 4]) := by decide +kernel
theorem bf213_126 : am_fetch (am_mth 213) 126 = some (.iastore, 1, [], [2, 3, 4]) := by decide +kernel
theorem bf213_127 : am_fetch (am_mth 213) 127 = some (.dup, 1, [], [2, 3, 4]) := by decide +kernel
theorem bf213_128 : am_fetch (am_mth 213) 128 = some (.bipush 7, 2, [], [2, 3, 4]) := by decide +kernel
theorem bf213_130 : am_fetch (am_mth 213) 130 = some (.aload_n 0, 1, [], [2, 3, 4]) := by decide +kernel
theorem bf213_131 : am_fetch (am_mth 213) 131 = some (.getfield 31, 3, [0, 11, 11, 1208], [2, 3, 4]) := by decide +kernel
theorem bf213_134 : am_fetch (am_mth 213) 134 = some (.invokevirtual 46, 3, [0, 56, 0, 3, 1291, 1292, 1293, 51], [2, 3, 4]) := by decide +kernel
theorem bf213_137 : am_fetch (am_mth 213) 137 = some (.iastore, 1, [], [2, 3, 4]) := by decide +kernel
theorem bf213_138 : am_fetch (am_mth 213) 138 = some (.dup, 1, [], [2, 3, 4]) := by decide +kernel
theorem bf213_139 : am_fetch (am_mth 213) 139 = some (.bipush 8, 2, [], [2, 3, 4]) := by decide +kernel
theorem bf213_141 : am_fetch (am_mth 213) 141 = some (.aload_n 0, 1, [], [2, 3, 4]) := by decide +kernel
theorem bf213_142 : am_fetch (am_mth 213) 142 = some (.getfield 166, 3, [0, 11, 3, 1200], [2, 3, 4]) := by decide +kernel
theorem bf213_145 : am_fetch (am_mth 213) 145 = some (.iastore, 1, [], [2, 3, 4]) := by decide +kernel
theorem bf213_146 : am_fetch (am_mth 213) 146 = some (.dup, 1, [], [2, 3, 4]) := by decide +kernel
theorem bf213_147 : am_fetch (am_mth 213) 147 = some (.bipush 9, 2, [], [2, 3, 4]) := by decide +kernel
theorem bf213_149 : am_fetch (am_mth 213) 149 = some (.aload_n 0, 1, [], [2, 3, 4]) := by decide +kernel
theorem bf213_150 : am_fetch (am_mth 213) 150 = some (.getfield 222, 3, [0, 11, 4, 1201], [2, 3, 4]) := by decide +kernel
theorem bf213_153 : am_fetch (am_mth 213) 153 = some (.iastore, 1, [], [2, 3, 4]) := by decide +kernel
theorem bf213_154 : am_fetch (am_mth 213) 154 = some (.dup, 1, [], [2, 3, 4]) := by decide +kernel
theorem bf213_155 : am_fetch (am_mth 213) 155 = some (.bipush 10, 2, [], [2, 3, 4]) := by decide +kernel
theorem bf213_157 : am_fetch (am_mth 213) 157 = some (.aload_n 0, 1, [], [2, 3, 4]) := by decide +kernel
theorem bf213_158 : am_fetch (am_mth 213) 158 = some (.getfield 219, 3, [0, 11, 5, 1202], [2, 3, 4]) := by decide +kernel
theorem bf213_161 : am_fetch (am_mth 213) 161 = some (.iastore, 1, [], [2, 3, 4]) := by decide +kernel
theorem bf213_162 : am_fetch (am_mth 213) 162 = some (.dup, 1, [], [2, 3, 4]) := by decide +kernel
theorem bf213_163 : am_fetch (am_mth 213) 163 = some (.bipush 11, 2, [], [2, 3, 4]) := by decide +kernel
theorem bf213_165 : am_fetch (am_mth 213) 165 = some (.aload_n 0, 1, [], [2, 3, 4]) := by decide +kernel
theorem bf213_166 : am_fetch (am_mth 213) 166 = some (.getfield 225, 3, [0, 11, 6, 1203], [0, 2, 3, 4]) := by decide +kernel
theorem bf213_169 : am_fetch (am_mth 213) 169 = some (.iastore, 1, [], [0, 2, 3, 4]) := by decide +kernel
theorem bf213_170 : am_fetch (am_mth 213) 170 = some (.astore_n 3, 1, [], [0, 2, 3, 4]) := by decide +kernel
theorem bf213_171 : am_fetch (am_mth 213) 171 = some (.aload_n 3, 1, [], [0, 2, 4]) := by decide +kernel
theorem bf213_172 : am_fetch (am_mth 213) 172 = some (.iload_n 1, 1, [], [0, 2, 3, 4]) := by decide +kernel
theorem bf213_173 : am_fetch (am_mth 213) 173 = some (.iaload, 1, [], [0, 1, 2, 3, 4]) := by decide +kernel
theorem bf213_174 : am_fetch (am_mth 213) 174 = some (.ireturn, 1, [0], [0, 1, 2, 3, 4]) := by decide +kernel
theorem bk213_0 {w : am_Wd} {l0 : Nat} {l1 : Int32} : am_run 213 0 [some (.ref l0), some (.int l1), none, none, none] [] w = am_run 213 4 [some (.ref l0), some (.int l1), some (.int (nI 0)), some (.int (nI 0)), none] [] w := by
  refine (bu (ls'' := [some (.ref l0), some (.int l1), none, none, none]) (st' := [.int (nI 0)]) bf213_0 bf213_1 rfl rfl).trans ?_
  refine (bu (ls'' := [some (.ref l0), some (.int l1), some (.int (nI 0)), none, none]) (st' := []) bf213_1 bf213_2 rfl rfl).trans ?_
  refine (bu (ls'' := [some (.ref l0), some (.int l1), some (.int (nI 0)), none, none]) (st' := [.int (nI 0)]) bf213_2 bf213_3 rfl rfl).trans ?_
  refine (bu (ls'' := [some (.ref l0), some (.int l1), some (.int (nI 0)), some (.int (nI 0)), none]) (st' := []) bf213_3 bf213_4 rfl rfl).trans ?_
  rfl
theorem bk213_4 {w : am_Wd} {l0 : Nat} {l1 : Int32} {l2 : Int32} {l3 : Int32} : am_run 213 4 [some (.ref l0), some (.int l1), some (.int l2), some (.int l3), none] [] w = if (nI 36) ≤ l3 then am_run 213 62 [some (.ref l0), some (.int l1), some (.int l2), none, none] [] w else am_run 213 10 [some (.ref l0), some (.int l1), some (.int l2), some (.int l3), none] [] w := by
  refine (bu (ls'' := [some (.ref l0), some (.int l1), some (.int l2), some (.int l3), none]) (st' := [.int l3]) bf213_4 bf213_5 rfl rfl).trans ?_
  refine (bu (ls'' := [some (.ref l0), some (.int l1), some (.int l2), some (.int l3), none]) (st' := [.int (nI 36), .int l3]) bf213_5 bf213_7 rfl rfl).trans ?_
  exact bic bf213_7 rfl bf213_62 bf213_10 rfl rfl rfl
theorem bk213_62 {w : am_Wd} {l0 : Nat} {l1 : Int32} {l2 : Int32} : am_run 213 62 [some (.ref l0), some (.int l1), some (.int l2), none, none] [] w = (am_na w 0 (nI 12)).bind fun w' => am_run 213 66 [some (.ref l0), some (.int l1), some (.int l2), none, none] (.ref w.2.1 :: []) w' := by
  refine (bu (ls'' := [some (.ref l0), some (.int l1), some (.int l2), none, none]) (st' := [.int (nI 12)]) bf213_62 bf213_64 rfl rfl).trans ?_
  exact bh bf213_64 bf213_66 rfl (bge_na) rfl
theorem bk213_10 {w : am_Wd} {l0 : Nat} {l1 : Int32} {l2 : Int32} {l3 : Int32} : am_run 213 10 [some (.ref l0), some (.int l1), some (.int l2), some (.int l3), none] [] w = am_run 213 13 [some (.ref l0), some (.int l1), some (.int l2), some (.int l3), some (.int (nI 0))] [] w := by
  refine (bu (ls'' := [some (.ref l0), some (.int l1), some (.int l2), some (.int l3), none]) (st' := [.int (nI 0)]) bf213_10 bf213_11 rfl rfl).trans ?_
  refine (bu (ls'' := [some (.ref l0), some (.int l1), some (.int l2), some (.int l3), some (.int (nI 0))]) (st' := []) bf213_11 bf213_13 rfl rfl).trans ?_
  rfl
theorem bk213_66 {w : am_Wd} {l0 : Nat} {l1 : Int32} {l2 : Int32} {s0 : Nat} : am_run 213 66 [some (.ref l0), some (.int l1), some (.int l2), none, none] [.ref s0] w = (am_gf w l0 11 1).bind fun v => am_run 213 72 [some (.ref l0), some (.int l1), some (.int l2), none, none] (v :: [.int (nI 0), .ref s0, .ref s0]) w := by
  refine (bu (ls'' := [some (.ref l0), some (.int l1), some (.int l2), none, none]) (st' := [.ref s0, .ref s0]) bf213_66 bf213_67 rfl rfl).trans ?_
  refine (bu (ls'' := [some (.ref l0), some (.int l1), some (.int l2), none, none]) (st' := [.int (nI 0), .ref s0, .ref s0]) bf213_67 bf213_68 rfl rfl).trans ?_
  refine (bu (ls'' := [some (.ref l0), some (.int l1), some (.int l2), none, none]) (st' := [.ref l0, .int (nI 0), .ref s0, .ref s0]) bf213_68 bf213_69 rfl rfl).trans ?_
  exact bh bf213_69 bf213_72 rfl (fun _ _ => am_ge_rf w) rfl
theorem bk213_13 {w : am_Wd} {l0 : Nat} {l1 : Int32} {l2 : Int32} {l3 : Int32} {l4 : Int32} : am_run 213 13 [some (.ref l0), some (.int l1), some (.int l2), some (.int l3), some (.int l4)] [] w = if (nI 2) ≤ l4 then am_run 213 56 [some (.ref l0), some (.int l1), some (.int l2), some (.int l3), none] [] w else am_run 213 19 [some (.ref l0), some (.int l1), some (.int l2), some (.int l3), some (.int l4)] [] w := by
  refine (bu (ls'' := [some (.ref l0), some (.int l1), some (.int l2), some (.int l3), some (.int l4)]) (st' := [.int l4]) bf213_13 bf213_15 rfl rfl).trans ?_
  refine (bu (ls'' := [some (.ref l0), some (.int l1), some (.int l2), some (.int l3), some (.int l4)]) (st' := [.int (nI 2), .int l4]) bf213_15 bf213_16 rfl rfl).trans ?_
  exact bic bf213_16 rfl bf213_56 bf213_19 rfl rfl rfl
theorem bk213_72 {w : am_Wd} {l0 : Nat} {l1 : Int32} {l2 : Int32} {s0 : Int32} {s1 : Int32} {s2 : Nat} {s3 : Nat} : am_run 213 72 [some (.ref l0), some (.int l1), some (.int l2), none, none] [.int s0, .int s1, .ref s2, .ref s3] w = (am_wi 0 w s2 s1 s0).bind fun w' => am_run 213 73 [some (.ref l0), some (.int l1), some (.int l2), none, none] [.ref s3] w' := by
  exact bh bf213_72 bf213_73 rfl (bge_wi) rfl
theorem bk213_56 {w : am_Wd} {l0 : Nat} {l1 : Int32} {l2 : Int32} {l3 : Int32} : am_run 213 56 [some (.ref l0), some (.int l1), some (.int l2), some (.int l3), none] [] w = am_run 213 4 [some (.ref l0), some (.int l1), some (.int l2), some (.int (l3 + (nI 1))), none] [] w := by
  refine (bu (ls'' := [some (.ref l0), some (.int l1), some (.int l2), some (.int (l3 + (nI 1))), none]) (st' := []) bf213_56 bf213_59 rfl rfl).trans ?_
  refine (bu (ls'' := [some (.ref l0), some (.int l1), some (.int l2), some (.int (l3 + (nI 1))), none]) (st' := []) bf213_59 bf213_4 rfl rfl).trans ?_
  rfl
theorem bk213_19 {w : am_Wd} {l0 : Nat} {l1 : Int32} {l2 : Int32} {l3 : Int32} {l4 : Int32} : am_run 213 19 [some (.ref l0), some (.int l1), some (.int l2), some (.int l3), some (.int l4)] [] w = (am_gf w l0 11 7).bind fun v => am_run 213 24 [some (.ref l0), some (.int l1), none, some (.int l3), some (.int l4)] (v :: [.int l2]) w := by
  refine (bu (ls'' := [some (.ref l0), some (.int l1), none, some (.int l3), some (.int l4)]) (st' := [.int l2]) bf213_19 bf213_20 rfl rfl).trans ?_
  refine (bu (ls'' := [some (.ref l0), some (.int l1), none, some (.int l3), some (.int l4)]) (st' := [.ref l0, .int l2]) bf213_20 bf213_21 rfl rfl).trans ?_
  exact bh bf213_21 bf213_24 rfl (fun _ _ => am_ge_rf w) rfl
theorem bk213_73 {w : am_Wd} {l0 : Nat} {l1 : Int32} {l2 : Int32} {s0 : Nat} : am_run 213 73 [some (.ref l0), some (.int l1), some (.int l2), none, none] [.ref s0] w = (am_gf w l0 11 1).bind fun v => am_run 213 79 [some (.ref l0), some (.int l1), some (.int l2), none, none] (v :: [.int (nI 1), .ref s0, .ref s0]) w := by
  refine (bu (ls'' := [some (.ref l0), some (.int l1), some (.int l2), none, none]) (st' := [.ref s0, .ref s0]) bf213_73 bf213_74 rfl rfl).trans ?_
  refine (bu (ls'' := [some (.ref l0), some (.int l1), some (.int l2), none, none]) (st' := [.int (nI 1), .ref s0, .ref s0]) bf213_74 bf213_75 rfl rfl).trans ?_
  refine (bu (ls'' := [some (.ref l0), some (.int l1), some (.int l2), none, none]) (st' := [.ref l0, .int (nI 1), .ref s0, .ref s0]) bf213_75 bf213_76 rfl rfl).trans ?_
  exact bh bf213_76 bf213_79 rfl (fun _ _ => am_ge_rf w) rfl
theorem bk213_24 {w : am_Wd} {l0 : Nat} {l1 : Int32} {l3 : Int32} {l4 : Int32} {s0 : Nat} {s1 : Int32} : am_run 213 24 [some (.ref l0), some (.int l1), none, some (.int l3), some (.int l4)] [.ref s0, .int s1] w = (am_rq w s0 l3).bind fun v => am_run 213 26 [some (.ref l0), some (.int l1), none, some (.int l3), some (.int l4)] (v :: [.int s1]) w := by
  refine (bu (ls'' := [some (.ref l0), some (.int l1), none, some (.int l3), some (.int l4)]) (st' := [.int l3, .ref s0, .int s1]) bf213_24 bf213_25 rfl rfl).trans ?_
  exact bh bf213_25 bf213_26 rfl (fun _ _ => am_ge_rf w) rfl
theorem bk213_79 {w : am_Wd} {l0 : Nat} {l1 : Int32} {l2 : Int32} {s0 : Int32} {s1 : Int32} {s2 : Nat} {s3 : Nat} : am_run 213 79 [some (.ref l0), some (.int l1), some (.int l2), none, none] [.int s0, .int s1, .ref s2, .ref s3] w = (am_wi 0 w s2 s1 (bj_irem (s0 / (nI 60)) (nI 24))).bind fun w' => am_run 213 86 [some (.ref l0), some (.int l1), some (.int l2), none, none] [.ref s3] w' := by
  refine (bu (ls'' := [some (.ref l0), some (.int l1), some (.int l2), none, none]) (st' := [.int (nI 60), .int s0, .int s1, .ref s2, .ref s3]) bf213_79 bf213_81 rfl rfl).trans ?_
  refine (bu (ls'' := [some (.ref l0), some (.int l1), some (.int l2), none, none]) (st' := [.int (s0 / (nI 60)), .int s1, .ref s2, .ref s3]) bf213_81 bf213_82 rfl rfl).trans ?_
  refine (bu (ls'' := [some (.ref l0), some (.int l1), some (.int l2), none, none]) (st' := [.int (nI 24), .int (s0 / (nI 60)), .int s1, .ref s2, .ref s3]) bf213_82 bf213_84 rfl rfl).trans ?_
  refine (bu (ls'' := [some (.ref l0), some (.int l1), some (.int l2), none, none]) (st' := [.int (bj_irem (s0 / (nI 60)) (nI 24)), .int s1, .ref s2, .ref s3]) bf213_84 bf213_85 rfl rfl).trans ?_
  exact bh bf213_85 bf213_86 rfl (bge_wi) rfl
theorem bk213_26 {w : am_Wd} {l0 : Nat} {l1 : Int32} {l3 : Int32} {l4 : Int32} {s0 : Nat} {s1 : Int32} : am_run 213 26 [some (.ref l0), some (.int l1), none, some (.int l3), some (.int l4)] [.ref s0, .int s1] w = (am_ri 0 w s0 l4).bind fun v => am_run 213 29 [some (.ref l0), some (.int l1), none, some (.int l3), some (.int l4)] (.int v :: [.int s1]) w := by
  refine (bu (ls'' := [some (.ref l0), some (.int l1), none, some (.int l3), some (.int l4)]) (st' := [.int l4, .ref s0, .int s1]) bf213_26 bf213_28 rfl rfl).trans ?_
  exact bh bf213_28 bf213_29 rfl (fun _ _ => am_ge_rf w) rfl
theorem bk213_86 {w : am_Wd} {l0 : Nat} {l1 : Int32} {l2 : Int32} {s0 : Nat} : am_run 213 86 [some (.ref l0), some (.int l1), some (.int l2), none, none] [.ref s0] w = (am_kf w l0 11).bind fun _ => (am_x 177 [.ref l0, .int (nI 1)] w).bind fun r => bct r fun v w' => am_run 213 93 [some (.ref l0), some (.int l1), some (.int l2), none, none] (v.toList ++ [.int (nI 2), .ref s0, .ref s0]) w' := by
  refine (bu (ls'' := [some (.ref l0), some (.int l1), some (.int l2), none, none]) (st' := [.ref s0, .ref s0]) bf213_86 bf213_87 rfl rfl).trans ?_
  refine (bu (ls'' := [some (.ref l0), some (.int l1), some (.int l2), none, none]) (st' := [.int (nI 2), .ref s0, .ref s0]) bf213_87 bf213_88 rfl rfl).trans ?_
  refine (bu (ls'' := [some (.ref l0), some (.int l1), some (.int l2), none, none]) (st' := [.ref l0, .int (nI 2), .ref s0, .ref s0]) bf213_88 bf213_89 rfl rfl).trans ?_
  refine (bu (ls'' := [some (.ref l0), some (.int l1), some (.int l2), none, none]) (st' := [.int (nI 1), .ref l0, .int (nI 2), .ref s0, .ref s0]) bf213_89 bf213_90 rfl rfl).trans ?_
  exact bkV bf213_90 bf213_93 rfl (by decide +kernel) (Nat.le_of_ble_eq_true rfl) rfl (bhd rfl)
theorem bk213_29 {w : am_Wd} {l0 : Nat} {l1 : Int32} {l3 : Int32} {l4 : Int32} {s0 : Int32} {s1 : Int32} : am_run 213 29 [some (.ref l0), some (.int l1), none, some (.int l3), some (.int l4)] [.int s0, .int s1] w = if ¬ s0 = (nI 2) then am_run 213 47 [some (.ref l0), some (.int l1), none, some (.int l3), some (.int l4)] [.int s1] w else am_run 213 33 [some (.ref l0), some (.int l1), none, some (.int l3), some (.int l4)] [.int s1] w := by
  refine (bu (ls'' := [some (.ref l0), some (.int l1), none, some (.int l3), some (.int l4)]) (st' := [.int (nI 2), .int s0, .int s1]) bf213_29 bf213_30 rfl rfl).trans ?_
  exact bic bf213_30 rfl bf213_47 bf213_33 rfl rfl rfl
theorem bk213_93 {w : am_Wd} {l0 : Nat} {l1 : Int32} {l2 : Int32} {s0 : Int32} {s1 : Int32} {s2 : Nat} {s3 : Nat} : am_run 213 93 [some (.ref l0), some (.int l1), some (.int l2), none, none] [.int s0, .int s1, .ref s2, .ref s3] w = (am_wi 0 w s2 s1 s0).bind fun w' => am_run 213 94 [some (.ref l0), some (.int l1), some (.int l2), none, none] [.ref s3] w' := by
  exact bh bf213_93 bf213_94 rfl (bge_wi) rfl
theorem bk213_47 {w : am_Wd} {l0 : Nat} {l1 : Int32} {l3 : Int32} {l4 : Int32} {s0 : Int32} : am_run 213 47 [some (.ref l0), some (.int l1), none, some (.int l3), some (.int l4)] [.int s0] w = am_run 213 48 [some (.ref l0), some (.int l1), none, some (.int l3), some (.int l4)] [.int (nI 0), .int s0] w := by
  refine (bu (ls'' := [some (.ref l0), some (.int l1), none, some (.int l3), some (.int l4)]) (st' := [.int (nI 0), .int s0]) bf213_47 bf213_48 rfl rfl).trans ?_
  rfl
theorem bk213_33 {w : am_Wd} {l0 : Nat} {l1 : Int32} {l3 : Int32} {l4 : Int32} {s0 : Int32} : am_run 213 33 [some (.ref l0), some (.int l1), none, some (.int l3), some (.int l4)] [.int s0] w = (am_kf w l0 11).bind fun _ => (am_x 42 [.ref l0, .int l3, .int l4] w).bind fun r => bct r fun v w' => am_run 213 40 [some (.ref l0), some (.int l1), none, some (.int l3), some (.int l4)] (v.toList ++ [.int s0]) w' := by
  refine (bu (ls'' := [some (.ref l0), some (.int l1), none, some (.int l3), some (.int l4)]) (st' := [.ref l0, .int s0]) bf213_33 bf213_34 rfl rfl).trans ?_
  refine (bu (ls'' := [some (.ref l0), some (.int l1), none, some (.int l3), some (.int l4)]) (st' := [.int l3, .ref l0, .int s0]) bf213_34 bf213_35 rfl rfl).trans ?_
  refine (bu (ls'' := [some (.ref l0), some (.int l1), none, some (.int l3), some (.int l4)]) (st' := [.int l4, .int l3, .ref l0, .int s0]) bf213_35 bf213_37 rfl rfl).trans ?_
  exact bkV bf213_37 bf213_40 rfl (by decide +kernel) (Nat.le_of_ble_eq_true rfl) rfl (bhd rfl)
theorem bk213_94 {w : am_Wd} {l0 : Nat} {l1 : Int32} {l2 : Int32} {s0 : Nat} : am_run 213 94 [some (.ref l0), some (.int l1), some (.int l2), none, none] [.ref s0] w = (am_kf w l0 11).bind fun _ => (am_x 177 [.ref l0, .int (nI 2)] w).bind fun r => bct r fun v w' => am_run 213 101 [some (.ref l0), some (.int l1), some (.int l2), none, none] (v.toList ++ [.int (nI 3), .ref s0, .ref s0]) w' := by
  refine (bu (ls'' := [some (.ref l0), some (.int l1), some (.int l2), none, none]) (st' := [.ref s0, .ref s0]) bf213_94 bf213_95 rfl rfl).trans ?_
  refine (bu (ls'' := [some (.ref l0), some (.int l1), some (.int l2), none, none]) (st' := [.int (nI 3), .ref s0, .ref s0]) bf213_95 bf213_96 rfl rfl).trans ?_
  refine (bu (ls'' := [some (.ref l0), some (.int l1), some (.int l2), none, none]) (st' := [.ref l0, .int (nI 3), .ref s0, .ref s0]) bf213_96 bf213_97 rfl rfl).trans ?_
  refine (bu (ls'' := [some (.ref l0), some (.int l1), some (.int l2), none, none]) (st' := [.int (nI 2), .ref l0, .int (nI 3), .ref s0, .ref s0]) bf213_97 bf213_98 rfl rfl).trans ?_
  exact bkV bf213_98 bf213_101 rfl (by decide +kernel) (Nat.le_of_ble_eq_true rfl) rfl (bhd rfl)
theorem bk213_48 {w : am_Wd} {l0 : Nat} {l1 : Int32} {l3 : Int32} {l4 : Int32} {s0 : Int32} {s1 : Int32} : am_run 213 48 [some (.ref l0), some (.int l1), none, some (.int l3), some (.int l4)] [.int s0, .int s1] w = am_run 213 13 [some (.ref l0), some (.int l1), some (.int (s1 + s0)), some (.int l3), some (.int (l4 + (nI 1)))] [] w := by
  refine (bu (ls'' := [some (.ref l0), some (.int l1), none, some (.int l3), some (.int l4)]) (st' := [.int (s1 + s0)]) bf213_48 bf213_49 rfl rfl).trans ?_
  refine (bu (ls'' := [some (.ref l0), some (.int l1), some (.int (s1 + s0)), some (.int l3), some (.int l4)]) (st' := []) bf213_49 bf213_50 rfl rfl).trans ?_
  refine (bu (ls'' := [some (.ref l0), some (.int l1), some (.int (s1 + s0)), some (.int l3), some (.int (l4 + (nI 1)))]) (st' := []) bf213_50 bf213_53 rfl rfl).trans ?_
  refine (bu (ls'' := [some (.ref l0), some (.int l1), some (.int (s1 + s0)), some (.int l3), some (.int (l4 + (nI 1)))]) (st' := []) bf213_53 bf213_13 rfl rfl).trans ?_
  rfl
theorem bk213_40 {w : am_Wd} {l0 : Nat} {l1 : Int32} {l3 : Int32} {l4 : Int32} {s0 : Int32} {s1 : Int32} : am_run 213 40 [some (.ref l0), some (.int l1), none, some (.int l3), some (.int l4)] [.int s0, .int s1] w = if s0 = nI 0 then am_run 213 47 [some (.ref l0), some (.int l1), none, some (.int l3), some (.int l4)] [.int s1] w else am_run 213 43 [some (.ref l0), some (.int l1), none, some (.int l3), some (.int l4)] [.int s1] w := by
  exact bifc bf213_40 rfl bf213_47 bf213_43 rfl rfl rfl
theorem bk213_101 {w : am_Wd} {l0 : Nat} {l1 : Int32} {l2 : Int32} {s0 : Int32} {s1 : Int32} {s2 : Nat} {s3 : Nat} : am_run 213 101 [some (.ref l0), some (.int l1), some (.int l2), none, none] [.int s0, .int s1, .ref s2, .ref s3] w = (am_wi 0 w s2 s1 s0).bind fun w' => am_run 213 102 [some (.ref l0), some (.int l1), some (.int l2), none, none] [.ref s3] w' := by
  exact bh bf213_101 bf213_102 rfl (bge_wi) rfl
theorem bk213_43 {w : am_Wd} {l0 : Nat} {l1 : Int32} {l3 : Int32} {l4 : Int32} {s0 : Int32} : am_run 213 43 [some (.ref l0), some (.int l1), none, some (.int l3), some (.int l4)] [.int s0] w = am_run 213 48 [some (.ref l0), some (.int l1), none, some (.int l3), some (.int l4)] [.int (nI 1), .int s0] w := by
  refine (bu (ls'' := [some (.ref l0), some (.int l1), none, some (.int l3), some (.int l4)]) (st' := [.int (nI 1), .int s0]) bf213_43 bf213_44 rfl rfl).trans ?_
  refine (bu (ls'' := [some (.ref l0), some (.int l1), none, some (.int l3), some (.int l4)]) (st' := [.int (nI 1), .int s0]) bf213_44 bf213_48 rfl rfl).trans ?_
  rfl
theorem bk213_102 {w : am_Wd} {l0 : Nat} {l1 : Int32} {l2 : Int32} {s0 : Nat} : am_run 213 102 [some (.ref l0), some (.int l1), some (.int l2), none, none] [.ref s0] w = (am_wi 0 w s0 (nI 4) l2).bind fun w' => am_run 213 106 [some (.ref l0), some (.int l1), none, none, none] [.ref s0] w' := by
  refine (bu (ls'' := [some (.ref l0), some (.int l1), some (.int l2), none, none]) (st' := [.ref s0, .ref s0]) bf213_102 bf213_103 rfl rfl).trans ?_
  refine (bu (ls'' := [some (.ref l0), some (.int l1), some (.int l2), none, none]) (st' := [.int (nI 4), .ref s0, .ref s0]) bf213_103 bf213_104 rfl rfl).trans ?_
  refine (bu (ls'' := [some (.ref l0), some (.int l1), none, none, none]) (st' := [.int l2, .int (nI 4), .ref s0, .ref s0]) bf213_104 bf213_105 rfl rfl).trans ?_
  exact bh bf213_105 bf213_106 rfl (bge_wi) rfl
theorem bk213_106 {w : am_Wd} {l0 : Nat} {l1 : Int32} {s0 : Nat} : am_run 213 106 [some (.ref l0), some (.int l1), none, none, none] [.ref s0] w = (am_gf w l0 11 9).bind fun v => am_run 213 112 [some (.ref l0), some (.int l1), none, none, none] (v :: [.int (nI 5), .ref s0, .ref s0]) w := by
  refine (bu (ls'' := [some (.ref l0), some (.int l1), none, none, none]) (st' := [.ref s0, .ref s0]) bf213_106 bf213_107 rfl rfl).trans ?_
  refine (bu (ls'' := [some (.ref l0), some (.int l1), none, none, none]) (st' := [.int (nI 5), .ref s0, .ref s0]) bf213_107 bf213_108 rfl rfl).trans ?_
  refine (bu (ls'' := [some (.ref l0), some (.int l1), none, none, none]) (st' := [.ref l0, .int (nI 5), .ref s0, .ref s0]) bf213_108 bf213_109 rfl rfl).trans ?_
  exact bh bf213_109 bf213_112 rfl (fun _ _ => am_ge_rf w) rfl
theorem bk213_112 {w : am_Wd} {l0 : Nat} {l1 : Int32} {s0 : Nat} {s1 : Int32} {s2 : Nat} {s3 : Nat} : am_run 213 112 [some (.ref l0), some (.int l1), none, none, none] [.ref s0, .int s1, .ref s2, .ref s3] w = (am_x 44 [.ref s0] w).bind fun r => bct r fun v w' => am_run 213 115 [some (.ref l0), some (.int l1), none, none, none] (v.toList ++ [.int s1, .ref s2, .ref s3]) w' := by
  exact bkS bf213_112 bf213_115 rfl (by decide +kernel) (Nat.le_of_ble_eq_true rfl) rfl (bhd rfl)
theorem bk213_115 {w : am_Wd} {l0 : Nat} {l1 : Int32} {s0 : Int32} {s1 : Int32} {s2 : Nat} {s3 : Nat} : am_run 213 115 [some (.ref l0), some (.int l1), none, none, none] [.int s0, .int s1, .ref s2, .ref s3] w = (am_wi 0 w s2 s1 s0).bind fun w' => am_run 213 116 [some (.ref l0), some (.int l1), none, none, none] [.ref s3] w' := by
  exact bh bf213_115 bf213_116 rfl (bge_wi) rfl
theorem bk213_116 {w : am_Wd} {l0 : Nat} {l1 : Int32} {s0 : Nat} : am_run 213 116 [some (.ref l0), some (.int l1), none, none, none] [.ref s0] w = (am_gf w l0 11 10).bind fun v => am_run 213 123 [some (.ref l0), some (.int l1), none, none, none] (v :: [.int (nI 6), .ref s0, .ref s0]) w := by
  refine (bu (ls'' := [some (.ref l0), some (.int l1), none, none, none]) (st' := [.ref s0, .ref s0]) bf213_116 bf213_117 rfl rfl).trans ?_
  refine (bu (ls'' := [some (.ref l0), some (.int l1), none, none, none]) (st' := [.int (nI 6), .ref s0, .ref s0]) bf213_117 bf213_119 rfl rfl).trans ?_
  refine (bu (ls'' := [some (.ref l0), some (.int l1), none, none, none]) (st' := [.ref l0, .int (nI 6), .ref s0, .ref s0]) bf213_119 bf213_120 rfl rfl).trans ?_
  exact bh bf213_120 bf213_123 rfl (fun _ _ => am_ge_rf w) rfl
theorem bk213_123 {w : am_Wd} {l0 : Nat} {l1 : Int32} {s0 : Nat} {s1 : Int32} {s2 : Nat} {s3 : Nat} : am_run 213 123 [some (.ref l0), some (.int l1), none, none, none] [.ref s0, .int s1, .ref s2, .ref s3] w = (am_x 44 [.ref s0] w).bind fun r => bct r fun v w' => am_run 213 126 [some (.ref l0), some (.int l1), none, none, none] (v.toList ++ [.int s1, .ref s2, .ref s3]) w' := by
  exact bkS bf213_123 bf213_126 rfl (by decide +kernel) (Nat.le_of_ble_eq_true rfl) rfl (bhd rfl)
theorem bk213_126 {w : am_Wd} {l0 : Nat} {l1 : Int32} {s0 : Int32} {s1 : Int32} {s2 : Nat} {s3 : Nat} : am_run 213 126 [some (.ref l0), some (.int l1), none, none, none] [.int s0, .int s1, .ref s2, .ref s3] w = (am_wi 0 w s2 s1 s0).bind fun w' => am_run 213 127 [some (.ref l0), some (.int l1), none, none, none] [.ref s3] w' := by
  exact bh bf213_126 bf213_127 rfl (bge_wi) rfl
theorem bk213_127 {w : am_Wd} {l0 : Nat} {l1 : Int32} {s0 : Nat} : am_run 213 127 [some (.ref l0), some (.int l1), none, none, none] [.ref s0] w = (am_gf w l0 11 11).bind fun v => am_run 213 134 [some (.ref l0), some (.int l1), none, none, none] (v :: [.int (nI 7), .ref s0, .ref s0]) w := by
  refine (bu (ls'' := [some (.ref l0), some (.int l1), none, none, none]) (st' := [.ref s0, .ref s0]) bf213_127 bf213_128 rfl rfl).trans ?_
  refine (bu (ls'' := [some (.ref l0), some (.int l1), none, none, none]) (st' := [.int (nI 7), .ref s0, .ref s0]) bf213_128 bf213_130 rfl rfl).trans ?_
  refine (bu (ls'' := [some (.ref l0), some (.int l1), none, none, none]) (st' := [.ref l0, .int (nI 7), .ref s0, .ref s0]) bf213_130 bf213_131 rfl rfl).trans ?_
  exact bh bf213_131 bf213_134 rfl (fun _ _ => am_ge_rf w) rfl
theorem bk213_134 {w : am_Wd} {l0 : Nat} {l1 : Int32} {s0 : Nat} {s1 : Int32} {s2 : Nat} {s3 : Nat} : am_run 213 134 [some (.ref l0), some (.int l1), none, none, none] [.ref s0, .int s1, .ref s2, .ref s3] w = (am_kf w s0 3).bind fun _ => (am_x 56 [.ref s0] w).bind fun r => bct r fun v w' => am_run 213 137 [some (.ref l0), some (.int l1), none, none, none] (v.toList ++ [.int s1, .ref s2, .ref s3]) w' := by
  exact bkV bf213_134 bf213_137 rfl (by decide +kernel) (Nat.le_of_ble_eq_true rfl) rfl (bhd rfl)
theorem bk213_137 {w : am_Wd} {l0 : Nat} {l1 : Int32} {s0 : Int32} {s1 : Int32} {s2 : Nat} {s3 : Nat} : am_run 213 137 [some (.ref l0), some (.int l1), none, none, none] [.int s0, .int s1, .ref s2, .ref s3] w = (am_wi 0 w s2 s1 s0).bind fun w' => am_run 213 138 [some (.ref l0), some (.int l1), none, none, none] [.ref s3] w' := by
  exact bh bf213_137 bf213_138 rfl (bge_wi) rfl
theorem bk213_138 {w : am_Wd} {l0 : Nat} {l1 : Int32} {s0 : Nat} : am_run 213 138 [some (.ref l0), some (.int l1), none, none, none] [.ref s0] w = (am_gf w l0 11 3).bind fun v => am_run 213 145 [some (.ref l0), some (.int l1), none, none, none] (v :: [.int (nI 8), .ref s0, .ref s0]) w := by
  refine (bu (ls'' := [some (.ref l0), some (.int l1), none, none, none]) (st' := [.ref s0, .ref s0]) bf213_138 bf213_139 rfl rfl).trans ?_
  refine (bu (ls'' := [some (.ref l0), some (.int l1), none, none, none]) (st' := [.int (nI 8), .ref s0, .ref s0]) bf213_139 bf213_141 rfl rfl).trans ?_
  refine (bu (ls'' := [some (.ref l0), some (.int l1), none, none, none]) (st' := [.ref l0, .int (nI 8), .ref s0, .ref s0]) bf213_141 bf213_142 rfl rfl).trans ?_
  exact bh bf213_142 bf213_145 rfl (fun _ _ => am_ge_rf w) rfl
theorem bk213_145 {w : am_Wd} {l0 : Nat} {l1 : Int32} {s0 : Int32} {s1 : Int32} {s2 : Nat} {s3 : Nat} : am_run 213 145 [some (.ref l0), some (.int l1), none, none, none] [.int s0, .int s1, .ref s2, .ref s3] w = (am_wi 0 w s2 s1 s0).bind fun w' => am_run 213 146 [some (.ref l0), some (.int l1), none, none, none] [.ref s3] w' := by
  exact bh bf213_145 bf213_146 rfl (bge_wi) rfl
theorem bk213_146 {w : am_Wd} {l0 : Nat} {l1 : Int32} {s0 : Nat} : am_run 213 146 [some (.ref l0), some (.int l1), none, none, none] [.ref s0] w = (am_gf w l0 11 4).bind fun v => am_run 213 153 [some (.ref l0), some (.int l1), none, none, none] (v :: [.int (nI 9), .ref s0, .ref s0]) w := by
  refine (bu (ls'' := [some (.ref l0), some (.int l1), none, none, none]) (st' := [.ref s0, .ref s0]) bf213_146 bf213_147 rfl rfl).trans ?_
  refine (bu (ls'' := [some (.ref l0), some (.int l1), none, none, none]) (st' := [.int (nI 9), .ref s0, .ref s0]) bf213_147 bf213_149 rfl rfl).trans ?_
  refine (bu (ls'' := [some (.ref l0), some (.int l1), none, none, none]) (st' := [.ref l0, .int (nI 9), .ref s0, .ref s0]) bf213_149 bf213_150 rfl rfl).trans ?_
  exact bh bf213_150 bf213_153 rfl (fun _ _ => am_ge_rf w) rfl
theorem bk213_153 {w : am_Wd} {l0 : Nat} {l1 : Int32} {s0 : Int32} {s1 : Int32} {s2 : Nat} {s3 : Nat} : am_run 213 153 [some (.ref l0), some (.int l1), none, none, none] [.int s0, .int s1, .ref s2, .ref s3] w = (am_wi 0 w s2 s1 s0).bind fun w' => am_run 213 154 [some (.ref l0), some (.int l1), none, none, none] [.ref s3] w' := by
  exact bh bf213_153 bf213_154 rfl (bge_wi) rfl
theorem bk213_154 {w : am_Wd} {l0 : Nat} {l1 : Int32} {s0 : Nat} : am_run 213 154 [some (.ref l0), some (.int l1), none, none, none] [.ref s0] w = (am_gf w l0 11 5).bind fun v => am_run 213 161 [some (.ref l0), some (.int l1), none, none, none] (v :: [.int (nI 10), .ref s0, .ref s0]) w := by
  refine (bu (ls'' := [some (.ref l0), some (.int l1), none, none, none]) (st' := [.ref s0, .ref s0]) bf213_154 bf213_155 rfl rfl).trans ?_
  refine (bu (ls'' := [some (.ref l0), some (.int l1), none, none, none]) (st' := [.int (nI 10), .ref s0, .ref s0]) bf213_155 bf213_157 rfl rfl).trans ?_
  refine (bu (ls'' := [some (.ref l0), some (.int l1), none, none, none]) (st' := [.ref l0, .int (nI 10), .ref s0, .ref s0]) bf213_157 bf213_158 rfl rfl).trans ?_
  exact bh bf213_158 bf213_161 rfl (fun _ _ => am_ge_rf w) rfl
theorem bk213_161 {w : am_Wd} {l0 : Nat} {l1 : Int32} {s0 : Int32} {s1 : Int32} {s2 : Nat} {s3 : Nat} : am_run 213 161 [some (.ref l0), some (.int l1), none, none, none] [.int s0, .int s1, .ref s2, .ref s3] w = (am_wi 0 w s2 s1 s0).bind fun w' => am_run 213 162 [some (.ref l0), some (.int l1), none, none, none] [.ref s3] w' := by
  exact bh bf213_161 bf213_162 rfl (bge_wi) rfl
theorem bk213_162 {w : am_Wd} {l0 : Nat} {l1 : Int32} {s0 : Nat} : am_run 213 162 [some (.ref l0), some (.int l1), none, none, none] [.ref s0] w = (am_gf w l0 11 6).bind fun v => am_run 213 169 [none, some (.int l1), none, none, none] (v :: [.int (nI 11), .ref s0, .ref s0]) w := by
  refine (bu (ls'' := [some (.ref l0), some (.int l1), none, none, none]) (st' := [.ref s0, .ref s0]) bf213_162 bf213_163 rfl rfl).trans ?_
  refine (bu (ls'' := [some (.ref l0), some (.int l1), none, none, none]) (st' := [.int (nI 11), .ref s0, .ref s0]) bf213_163 bf213_165 rfl rfl).trans ?_
  refine (bu (ls'' := [none, some (.int l1), none, none, none]) (st' := [.ref l0, .int (nI 11), .ref s0, .ref s0]) bf213_165 bf213_166 rfl rfl).trans ?_
  exact bh bf213_166 bf213_169 rfl (fun _ _ => am_ge_rf w) rfl
theorem bk213_169 {w : am_Wd} {l1 : Int32} {s0 : Int32} {s1 : Int32} {s2 : Nat} {s3 : Nat} : am_run 213 169 [none, some (.int l1), none, none, none] [.int s0, .int s1, .ref s2, .ref s3] w = (am_wi 0 w s2 s1 s0).bind fun w' => am_run 213 170 [none, some (.int l1), none, none, none] [.ref s3] w' := by
  exact bh bf213_169 bf213_170 rfl (bge_wi) rfl
theorem bk213_170 {w : am_Wd} {l1 : Int32} {s0 : Nat} : am_run 213 170 [none, some (.int l1), none, none, none] [.ref s0] w = (am_ri 0 w s0 l1).bind fun v => am_run 213 174 [none, none, none, none, none] (.int v :: []) w := by
  refine (bu (ls'' := [none, some (.int l1), none, some (.ref s0), none]) (st' := []) bf213_170 bf213_171 rfl rfl).trans ?_
  refine (bu (ls'' := [none, some (.int l1), none, none, none]) (st' := [.ref s0]) bf213_171 bf213_172 rfl rfl).trans ?_
  refine (bu (ls'' := [none, none, none, none, none]) (st' := [.int l1, .ref s0]) bf213_172 bf213_173 rfl rfl).trans ?_
  exact bh bf213_173 bf213_174 rfl (fun _ _ => am_ge_rf w) rfl
theorem bk213_174 {w : am_Wd} {s0 : Int32} : am_run 213 174 [none, none, none, none, none] [.int s0] w = some (.inl (some (.int s0)), w) := by
  exact am_e2 bf213_174 rfl (am_ge_rf w)
theorem bf214_0 : am_fetch (am_mth 214) 0 = some (.aload_n 0, 1, [], []) := by decide +kernel
theorem bf214_1 : am_fetch (am_mth 214) 1 = some (.aload_n 0, 1, [], []) := by decide +kernel
theorem bf214_2 : am_fetch (am_mth 214) 2 = some (.iload_n 1, 1, [], []) := by decide +kernel
theorem bf214_3 : am_fetch (am_mth 214) 3 = some (.invokevirtual 149, 3, [0, 99, 1, 11, 1387, 1389, 24, 48], []) := by decide +kernel
theorem bf214_6 : am_fetch (am_mth 214) 6 = some (.ifCond .ne 17, 3, [], []) := by decide +kernel
theorem bf214_9 : am_fetch (am_mth 214) 9 = some (.iload_n 2, 1, [], []) := by decide +kernel
theorem bf214_10 : am_fetch (am_mth 214) 10 = some (.invokestatic 76, 3, [0, 97, 1, 1242, 1243, 48], []) := by decide +kernel
theorem bf214_13 : am_fetch (am_mth 214) 13 = some (.ifCond .ne 10, 3, [], []) := by decide +kernel
theorem bf214_16 : am_fetch (am_mth 214) 16 = some (.iload_n 3, 1, [], []) := by decide +kernel
theorem bf214_17 : am_fetch (am_mth 214) 17 = some (.invokestatic 80, 3, [0, 98, 1, 1248, 1249, 48], []) := by decide +kernel
theorem bf214_20 : am_fetch (am_mth 214) 20 = some (.ifCond .eq 7, 3, [], []) := by decide +kernel
theorem bf214_23 : am_fetch (am_mth 214) 23 = some (.iconst 1, 1, [], []) := by decide +kernel
theorem bf214_24 : am_fetch (am_mth 214) 24 = some (.goto 4, 3, [], []) := by decide +kernel
theorem bf214_27 : am_fetch (am_mth 214) 27 = some (.iconst 0, 1, [], []) := by decide +kernel
theorem bf214_28 : am_fetch (am_mth 214) 28 = some (.iconst 1, 1, [], []) := by decide +kernel
theorem bf214_29 : am_fetch (am_mth 214) 29 = some (.invokevirtual 83, 3, [0, 96, 2, 11, 1251, 1253, 18, 48], []) := by decide +kernel
theorem bf214_32 : am_fetch (am_mth 214) 32 = some (.ifCond .eq 7, 3, [], []) := by decide +kernel
theorem bf214_35 : am_fetch (am_mth 214) 35 = some (.iconst 0, 1, [], [0, 1, 2, 3]) := by decide +kernel
theorem bf214_36 : am_fetch (am_mth 214) 36 = some (.goto 19, 3, [], [0, 1, 2, 3]) := by decide +kernel
theorem bf214_39 : am_fetch (am_mth 214) 39 = some (.aload_n 0, 1, [], []) := by decide +kernel
theorem bf214_40 : am_fetch (am_mth 214) 40 = some (.getfield 31, 3, [0, 11, 11, 1208], [0]) := by decide +kernel
theorem bf214_43 : am_fetch (am_mth 214) 43 = some (.iload_n 1, 1, [], [0]) := by decide +kernel
theorem bf214_44 : am_fetch (am_mth 214) 44 = some (.invokevirtual 152, 3, [0, 150, 1, 3, 1391, 1392, 1393, 51], [0, 1]) := by decide +kernel
theorem bf214_47 : am_fetch (am_mth 214) 47 = some (.checkcast 72, 3, [0, 10, 1295], [0, 1]) := by decide +kernel
theorem bf214_50 : am_fetch (am_mth 214) 50 = some (.iload_n 2, 1, [], [0, 1]) := by decide +kernel
theorem bf214_51 : am_fetch (am_mth 214) 51 = some (.iload_n 3, 1, [], [0, 1, 2]) := by decide +kernel
theorem bf214_52 : am_fetch (am_mth 214) 52 = some (.invokestatic 118, 3, [0, 174, 3, 1431, 1432, 48], [0, 1, 2, 3]) := by decide +kernel
theorem bf214_55 : am_fetch (am_mth 214) 55 = some (.ireturn, 1, [0], [0, 1, 2, 3]) := by decide +kernel
theorem bk214_0 {w : am_Wd} {l0 : Nat} {l1 : Int32} {l2 : Int32} {l3 : Int32} : am_run 214 0 [some (.ref l0), some (.int l1), some (.int l2), some (.int l3)] [] w = (am_kf w l0 11).bind fun _ => (am_x 99 [.ref l0, .int l1] w).bind fun r => bct r fun v w' => am_run 214 6 [some (.ref l0), some (.int l1), some (.int l2), some (.int l3)] (v.toList ++ [.ref l0]) w' := by
  refine (bu (ls'' := [some (.ref l0), some (.int l1), some (.int l2), some (.int l3)]) (st' := [.ref l0]) bf214_0 bf214_1 rfl rfl).trans ?_
  refine (bu (ls'' := [some (.ref l0), some (.int l1), some (.int l2), some (.int l3)]) (st' := [.ref l0, .ref l0]) bf214_1 bf214_2 rfl rfl).trans ?_
  refine (bu (ls'' := [some (.ref l0), some (.int l1), some (.int l2), some (.int l3)]) (st' := [.int l1, .ref l0, .ref l0]) bf214_2 bf214_3 rfl rfl).trans ?_
  exact bkV bf214_3 bf214_6 rfl (by decide +kernel) (Nat.le_of_ble_eq_true rfl) rfl (bhd rfl)
theorem bk214_6 {w : am_Wd} {l0 : Nat} {l1 : Int32} {l2 : Int32} {l3 : Int32} {s0 : Int32} {s1 : Nat} : am_run 214 6 [some (.ref l0), some (.int l1), some (.int l2), some (.int l3)] [.int s0, .ref s1] w = if ¬ s0 = nI 0 then am_run 214 23 [some (.ref l0), some (.int l1), some (.int l2), some (.int l3)] [.ref s1] w else am_run 214 9 [some (.ref l0), some (.int l1), some (.int l2), some (.int l3)] [.ref s1] w := by
  exact bifc bf214_6 rfl bf214_23 bf214_9 rfl rfl rfl
theorem bk214_23 {w : am_Wd} {l0 : Nat} {l1 : Int32} {l2 : Int32} {l3 : Int32} {s0 : Nat} : am_run 214 23 [some (.ref l0), some (.int l1), some (.int l2), some (.int l3)] [.ref s0] w = am_run 214 28 [some (.ref l0), some (.int l1), some (.int l2), some (.int l3)] [.int (nI 1), .ref s0] w := by
  refine (bu (ls'' := [some (.ref l0), some (.int l1), some (.int l2), some (.int l3)]) (st' := [.int (nI 1), .ref s0]) bf214_23 bf214_24 rfl rfl).trans ?_
  refine (bu (ls'' := [some (.ref l0), some (.int l1), some (.int l2), some (.int l3)]) (st' := [.int (nI 1), .ref s0]) bf214_24 bf214_28 rfl rfl).trans ?_
  rfl
theorem bk214_9 {w : am_Wd} {l0 : Nat} {l1 : Int32} {l2 : Int32} {l3 : Int32} {s0 : Nat} : am_run 214 9 [some (.ref l0), some (.int l1), some (.int l2), some (.int l3)] [.ref s0] w = (am_x 97 [.int l2] w).bind fun r => bct r fun v w' => am_run 214 13 [some (.ref l0), some (.int l1), some (.int l2), some (.int l3)] (v.toList ++ [.ref s0]) w' := by
  refine (bu (ls'' := [some (.ref l0), some (.int l1), some (.int l2), some (.int l3)]) (st' := [.int l2, .ref s0]) bf214_9 bf214_10 rfl rfl).trans ?_
  exact bkS bf214_10 bf214_13 rfl (by decide +kernel) (Nat.le_of_ble_eq_true rfl) rfl (bhd rfl)
theorem bk214_28 {w : am_Wd} {l0 : Nat} {l1 : Int32} {l2 : Int32} {l3 : Int32} {s0 : Int32} {s1 : Nat} : am_run 214 28 [some (.ref l0), some (.int l1), some (.int l2), some (.int l3)] [.int s0, .ref s1] w = (am_kf w s1 11).bind fun _ => (am_x 96 [.ref s1, .int s0, .int (nI 1)] w).bind fun r => bct r fun v w' => am_run 214 32 [some (.ref l0), some (.int l1), some (.int l2), some (.int l3)] (v.toList ++ []) w' := by
  refine (bu (ls'' := [some (.ref l0), some (.int l1), some (.int l2), some (.int l3)]) (st' := [.int (nI 1), .int s0, .ref s1]) bf214_28 bf214_29 rfl rfl).trans ?_
  exact bkV bf214_29 bf214_32 rfl (by decide +kernel) (Nat.le_of_ble_eq_true rfl) rfl (bhd rfl)
theorem bk214_13 {w : am_Wd} {l0 : Nat} {l1 : Int32} {l2 : Int32} {l3 : Int32} {s0 : Int32} {s1 : Nat} : am_run 214 13 [some (.ref l0), some (.int l1), some (.int l2), some (.int l3)] [.int s0, .ref s1] w = if ¬ s0 = nI 0 then am_run 214 23 [some (.ref l0), some (.int l1), some (.int l2), some (.int l3)] [.ref s1] w else am_run 214 16 [some (.ref l0), some (.int l1), some (.int l2), some (.int l3)] [.ref s1] w := by
  exact bifc bf214_13 rfl bf214_23 bf214_16 rfl rfl rfl
theorem bk214_32 {w : am_Wd} {l0 : Nat} {l1 : Int32} {l2 : Int32} {l3 : Int32} {s0 : Int32} : am_run 214 32 [some (.ref l0), some (.int l1), some (.int l2), some (.int l3)] [.int s0] w = if s0 = nI 0 then am_run 214 39 [some (.ref l0), some (.int l1), some (.int l2), some (.int l3)] [] w else am_run 214 35 [none, none, none, none] [] w := by
  exact bifc bf214_32 rfl bf214_39 bf214_35 rfl rfl rfl
theorem bk214_16 {w : am_Wd} {l0 : Nat} {l1 : Int32} {l2 : Int32} {l3 : Int32} {s0 : Nat} : am_run 214 16 [some (.ref l0), some (.int l1), some (.int l2), some (.int l3)] [.ref s0] w = (am_x 98 [.int l3] w).bind fun r => bct r fun v w' => am_run 214 20 [some (.ref l0), some (.int l1), some (.int l2), some (.int l3)] (v.toList ++ [.ref s0]) w' := by
  refine (bu (ls'' := [some (.ref l0), some (.int l1), some (.int l2), some (.int l3)]) (st' := [.int l3, .ref s0]) bf214_16 bf214_17 rfl rfl).trans ?_
  exact bkS bf214_17 bf214_20 rfl (by decide +kernel) (Nat.le_of_ble_eq_true rfl) rfl (bhd rfl)
theorem bk214_39 {w : am_Wd} {l0 : Nat} {l1 : Int32} {l2 : Int32} {l3 : Int32} : am_run 214 39 [some (.ref l0), some (.int l1), some (.int l2), some (.int l3)] [] w = (am_gf w l0 11 11).bind fun v => am_run 214 43 [none, some (.int l1), some (.int l2), some (.int l3)] (v :: []) w := by
  refine (bu (ls'' := [none, some (.int l1), some (.int l2), some (.int l3)]) (st' := [.ref l0]) bf214_39 bf214_40 rfl rfl).trans ?_
  exact bh bf214_40 bf214_43 rfl (fun _ _ => am_ge_rf w) rfl
theorem bk214_35 {w : am_Wd}  : am_run 214 35 [none, none, none, none] [] w = am_run 214 55 [none, none, none, none] [.int (nI 0)] w := by
  refine (bu (ls'' := [none, none, none, none]) (st' := [.int (nI 0)]) bf214_35 bf214_36 rfl rfl).trans ?_
  refine (bu (ls'' := [none, none, none, none]) (st' := [.int (nI 0)]) bf214_36 bf214_55 rfl rfl).trans ?_
  rfl
theorem bk214_20 {w : am_Wd} {l0 : Nat} {l1 : Int32} {l2 : Int32} {l3 : Int32} {s0 : Int32} {s1 : Nat} : am_run 214 20 [some (.ref l0), some (.int l1), some (.int l2), some (.int l3)] [.int s0, .ref s1] w = if s0 = nI 0 then am_run 214 27 [some (.ref l0), some (.int l1), some (.int l2), some (.int l3)] [.ref s1] w else am_run 214 23 [some (.ref l0), some (.int l1), some (.int l2), some (.int l3)] [.ref s1] w := by
  exact bifc bf214_20 rfl bf214_27 bf214_23 rfl rfl rfl
theorem bk214_43 {w : am_Wd} {l1 : Int32} {l2 : Int32} {l3 : Int32} {s0 : Nat} : am_run 214 43 [none, some (.int l1), some (.int l2), some (.int l3)] [.ref s0] w = (am_kf w s0 3).bind fun _ => (am_x 150 [.ref s0, .int l1] w).bind fun r => bct r fun v w' => am_run 214 47 [none, none, some (.int l2), some (.int l3)] (v.toList ++ []) w' := by
  refine (bu (ls'' := [none, none, some (.int l2), some (.int l3)]) (st' := [.int l1, .ref s0]) bf214_43 bf214_44 rfl rfl).trans ?_
  exact bkV bf214_44 bf214_47 rfl (by decide +kernel) (Nat.le_of_ble_eq_true rfl) rfl (bhd rfl)
theorem bk214_55 {w : am_Wd} {s0 : Int32} : am_run 214 55 [none, none, none, none] [.int s0] w = some (.inl (some (.int s0)), w) := by
  exact am_e2 bf214_55 rfl (am_ge_rf w)
theorem bk214_27 {w : am_Wd} {l0 : Nat} {l1 : Int32} {l2 : Int32} {l3 : Int32} {s0 : Nat} : am_run 214 27 [some (.ref l0), some (.int l1), some (.int l2), some (.int l3)] [.ref s0] w = am_run 214 28 [some (.ref l0), some (.int l1), some (.int l2), some (.int l3)] [.int (nI 0), .ref s0] w := by
  refine (bu (ls'' := [some (.ref l0), some (.int l1), some (.int l2), some (.int l3)]) (st' := [.int (nI 0), .ref s0]) bf214_27 bf214_28 rfl rfl).trans ?_
  rfl
theorem bk214_47 {w : am_Wd} {l2 : Int32} {l3 : Int32} {s0 : Nat} : am_run 214 47 [none, none, some (.int l2), some (.int l3)] [.ref s0] w = (am_kf w s0 10).bind fun _ => am_run 214 50 [none, none, some (.int l2), some (.int l3)] [.ref s0] w := by
  exact bh bf214_47 bf214_50 rfl (fun _ _ => am_ge_rf w) rfl
theorem bk214_50 {w : am_Wd} {l2 : Int32} {l3 : Int32} {s0 : Nat} : am_run 214 50 [none, none, some (.int l2), some (.int l3)] [.ref s0] w = (am_x 174 [.ref s0, .int l2, .int l3] w).bind fun r => bct r fun v w' => am_run 214 55 [none, none, none, none] (v.toList ++ []) w' := by
  refine (bu (ls'' := [none, none, none, some (.int l3)]) (st' := [.int l2, .ref s0]) bf214_50 bf214_51 rfl rfl).trans ?_
  refine (bu (ls'' := [none, none, none, none]) (st' := [.int l3, .int l2, .ref s0]) bf214_51 bf214_52 rfl rfl).trans ?_
  exact bkS bf214_52 bf214_55 rfl (by decide +kernel) (Nat.le_of_ble_eq_true rfl) rfl (bhd rfl)
theorem bf215_0 : am_fetch (am_mth 215) 0 = some (.aload_n 0, 1, [], []) := by decide +kernel
theorem bf215_1 : am_fetch (am_mth 215) 1 = some (.iconst 0, 1, [], []) := by decide +kernel
theorem bf215_2 : am_fetch (am_mth 215) 2 = some (.putfield 35, 3, [0, 11, 0, 1197], []) := by decide +kernel
theorem bf215_5 : am_fetch (am_mth 215) 5 = some (.aload_n 0, 1, [], []) := by decide +kernel
theorem bf215_6 : am_fetch (am_mth 215) 6 = some (.invokevirtual 298, 3, [0, 186, 0, 11, 1690, 1692, 44, 48], [0]) := by decide +kernel
theorem bf215_9 : am_fetch (am_mth 215) 9 = some (.ireturn, 1, [1], [0]) := by decide +kernel
theorem bk215_0 {w : am_Wd} {l0 : Nat} : am_run 215 0 [some (.ref l0)] [] w = (am_pf w l0 11 0 (.int (nI 0))).bind fun w' => am_run 215 5 [some (.ref l0)] [] w' := by
  refine (bu (ls'' := [some (.ref l0)]) (st' := [.ref l0]) bf215_0 bf215_1 rfl rfl).trans ?_
  refine (bu (ls'' := [some (.ref l0)]) (st' := [.int (nI 0), .ref l0]) bf215_1 bf215_2 rfl rfl).trans ?_
  exact bh bf215_2 bf215_5 rfl (bge_pf) rfl
theorem bk215_5 {w : am_Wd} {l0 : Nat} : am_run 215 5 [some (.ref l0)] [] w = (am_kf w l0 11).bind fun _ => (am_x 186 [.ref l0] w).bind fun r => bct r fun v w' => am_run 215 9 [none] (v.toList ++ []) w' := by
  refine (bu (ls'' := [none]) (st' := [.ref l0]) bf215_5 bf215_6 rfl rfl).trans ?_
  exact bkV bf215_6 bf215_9 rfl (by decide +kernel) (Nat.le_of_ble_eq_true rfl) rfl (bhd rfl)
theorem bk215_9 {w : am_Wd} {s0 : Int32} (hb : am_ok (am_rt 1) (.int s0) = true) : am_run 215 9 [none] [.int s0] w = some (.inl (some (.int s0)), w) := by
  exact am_e2 bf215_9 (by unfold am_stp; exact if_pos ⟨by decide, hb⟩) (am_ge_rf w)
theorem bf216_0 : am_fetch (am_mth 216) 0 = some (.aload 5, 2, [], [6]) := by decide +kernel
theorem bf216_2 : am_fetch (am_mth 216) 2 = some (.aload_n 0, 1, [], [5, 6]) := by decide +kernel
theorem bf216_3 : am_fetch (am_mth 216) 3 = some (.iload_n 1, 1, [], [0, 5, 6]) := by decide +kernel
theorem bf216_4 : am_fetch (am_mth 216) 4 = some (.iload_n 2, 1, [], [0, 1, 5, 6]) := by decide +kernel
theorem bf216_5 : am_fetch (am_mth 216) 5 = some (.iload_n 3, 1, [], [0, 1, 2, 5, 6]) := by decide +kernel
theorem bf216_6 : am_fetch (am_mth 216) 6 = some (.iload 4, 2, [], [0, 1, 2, 3, 5, 6]) := by decide +kernel
theorem bf216_8 : am_fetch (am_mth 216) 8 = some (.invokevirtual 7, 3, [0, 166, 4, 8, 500, 501, 502, 46], [0, 1, 2, 3, 4, 5, 6]) := by decide +kernel
theorem bf216_11 : am_fetch (am_mth 216) 11 = some (.i2l, 1, [], [0, 1, 2, 3, 4, 5, 6]) := by decide +kernel
theorem bf216_12 : am_fetch (am_mth 216) 12 = some (.putfield 13, 3, [1, 9, 0, 485], [0, 1, 2, 3, 4, 5, 6]) := by decide +kernel
theorem bf216_15 : am_fetch (am_mth 216) 15 = some (.goto 11, 3, [], [0, 1, 2, 3, 4, 5, 6]) := by decide +kernel
theorem bf216_18 : am_fetch (am_mth 216) 18 = some (.astore 6, 2, [], [0, 1, 2, 3, 4, 5, 6]) := by decide +kernel
theorem bf216_20 : am_fetch (am_mth 216) 20 = some (.iconst 1, 1, [], [0, 1, 2, 3, 4, 5, 6]) := by decide +kernel
theorem bf216_21 : am_fetch (am_mth 216) 21 = some (.ireturn, 1, [0], [0, 1, 2, 3, 4, 5, 6]) := by decide +kernel
theorem bf216_22 : am_fetch (am_mth 216) 22 = some (.astore 6, 2, [], [0, 1, 2, 3, 4, 5, 6]) := by decide +kernel
theorem bf216_24 : am_fetch (am_mth 216) 24 = some (.iconst 2, 1, [], [0, 1, 2, 3, 4, 5, 6]) := by decide +kernel
theorem bf216_25 : am_fetch (am_mth 216) 25 = some (.ireturn, 1, [0], [0, 1, 2, 3, 4, 5, 6]) := by decide +kernel
theorem bf216_26 : am_fetch (am_mth 216) 26 = some (.iconst 0, 1, [], [0, 1, 2, 3, 4, 5, 6]) := by decide +kernel
theorem bf216_27 : am_fetch (am_mth 216) 27 = some (.ireturn, 1, [0], [0, 1, 2, 3, 4, 5, 6]) := by decide +kernel
theorem bk216_0 {w : am_Wd} {l0 : Nat} {l1 : Int32} {l2 : Int32} {l3 : Int32} {l4 : Int32} {l5 : Nat} : am_run 216 0 [some (.ref l0), some (.int l1), some (.int l2), some (.int l3), some (.int l4), some (.ref l5), none] [] w = (am_kf w l0 8).bind fun _ => (am_x 166 [.ref l0, .int l1, .int l2, .int l3, .int l4] w).bind fun r => am_af 216 8 r (fun v w' => am_run 216 11 [none, none, none, none, none, none, none] (v.toList ++ [.ref l5]) w') (fun h w' => am_run 216 h (am_nrm 216 h [none, none, none, none, none, none, none]) [] w') := by
  refine (bu (ls'' := [some (.ref l0), some (.int l1), some (.int l2), some (.int l3), some (.int l4), none, none]) (st' := [.ref l5]) bf216_0 bf216_2 rfl rfl).trans ?_
  refine (bu (ls'' := [none, some (.int l1), some (.int l2), some (.int l3), some (.int l4), none, none]) (st' := [.ref l0, .ref l5]) bf216_2 bf216_3 rfl rfl).trans ?_
  refine (bu (ls'' := [none, none, some (.int l2), some (.int l3), some (.int l4), none, none]) (st' := [.int l1, .ref l0, .ref l5]) bf216_3 bf216_4 rfl rfl).trans ?_
  refine (bu (ls'' := [none, none, none, some (.int l3), some (.int l4), none, none]) (st' := [.int l2, .int l1, .ref l0, .ref l5]) bf216_4 bf216_5 rfl rfl).trans ?_
  refine (bu (ls'' := [none, none, none, none, some (.int l4), none, none]) (st' := [.int l3, .int l2, .int l1, .ref l0, .ref l5]) bf216_5 bf216_6 rfl rfl).trans ?_
  refine (bu (ls'' := [none, none, none, none, none, none, none]) (st' := [.int l4, .int l3, .int l2, .int l1, .ref l0, .ref l5]) bf216_6 bf216_8 rfl rfl).trans ?_
  exact bkHV bf216_8 bf216_11 rfl (by decide +kernel) (Nat.le_of_ble_eq_true rfl) rfl
theorem bk216_11 {w : am_Wd} {s0 : Int32} {s1 : Nat} : am_run 216 11 [none, none, none, none, none, none, none] [.int s0, .ref s1] w = (am_pf w s1 9 0 (.long (Int32.toInt64 s0))).bind fun w' => am_run 216 15 [none, none, none, none, none, none, none] [] w' := by
  refine (bu (ls'' := [none, none, none, none, none, none, none]) (st' := [.long (Int32.toInt64 s0), .ref s1]) bf216_11 bf216_12 rfl rfl).trans ?_
  exact bh bf216_12 bf216_15 rfl (bge_pf) rfl
theorem bk216_20 {w : am_Wd}  : am_run 216 20 [none, none, none, none, none, none, none] [] w = some (.inl (some (.int (nI 1))), w) := by
  refine (bu (ls'' := [none, none, none, none, none, none, none]) (st' := [.int (nI 1)]) bf216_20 bf216_21 rfl rfl).trans ?_
  exact am_e2 bf216_21 rfl (am_ge_rf w)
theorem bk216_24 {w : am_Wd}  : am_run 216 24 [none, none, none, none, none, none, none] [] w = some (.inl (some (.int (nI 2))), w) := by
  refine (bu (ls'' := [none, none, none, none, none, none, none]) (st' := [.int (nI 2)]) bf216_24 bf216_25 rfl rfl).trans ?_
  exact am_e2 bf216_25 rfl (am_ge_rf w)
theorem bk216_15 {w : am_Wd}  : am_run 216 15 [none, none, none, none, none, none, none] [] w = some (.inl (some (.int (nI 0))), w) := by
  refine (bu (ls'' := [none, none, none, none, none, none, none]) (st' := []) bf216_15 bf216_26 rfl rfl).trans ?_
  refine (bu (ls'' := [none, none, none, none, none, none, none]) (st' := [.int (nI 0)]) bf216_26 bf216_27 rfl rfl).trans ?_
  exact am_e2 bf216_27 rfl (am_ge_rf w)
theorem bf217_0 : am_fetch (am_mth 217) 0 = some (.aload 5, 2, [], [6]) := by decide +kernel
theorem bf217_2 : am_fetch (am_mth 217) 2 = some (.aload_n 0, 1, [], [5, 6]) := by decide +kernel
theorem bf217_3 : am_fetch (am_mth 217) 3 = some (.iload_n 1, 1, [], [0, 5, 6]) := by decide +kernel
theorem bf217_4 : am_fetch (am_mth 217) 4 = some (.iload_n 2, 1, [], [0, 1, 5, 6]) := by decide +kernel
theorem bf217_5 : am_fetch (am_mth 217) 5 = some (.iload_n 3, 1, [], [0, 1, 2, 5, 6]) := by decide +kernel
theorem bf217_6 : am_fetch (am_mth 217) 6 = some (.iload 4, 2, [], [0, 1, 2, 3, 5, 6]) := by decide +kernel
theorem bf217_8 : am_fetch (am_mth 217) 8 = some (.invokevirtual 31, 3, [0, 167, 4, 8, 541, 542, 543, 46], [0, 1, 2, 3, 4, 5, 6]) := by decide +kernel
theorem bf217_11 : am_fetch (am_mth 217) 11 = some (.i2l, 1, [], [0, 1, 2, 3, 4, 5, 6]) := by decide +kernel
theorem bf217_12 : am_fetch (am_mth 217) 12 = some (.putfield 13, 3, [1, 9, 0, 485], [0, 1, 2, 3, 4, 5, 6]) := by decide +kernel
theorem bf217_15 : am_fetch (am_mth 217) 15 = some (.goto 15, 3, [], [0, 1, 2, 3, 4, 5, 6]) := by decide +kernel
theorem bf217_18 : am_fetch (am_mth 217) 18 = some (.astore 6, 2, [], [0, 1, 2, 3, 4, 5, 6]) := by decide +kernel
theorem bf217_20 : am_fetch (am_mth 217) 20 = some (.iconst 1, 1, [], [0, 1, 2, 3, 4, 5, 6]) := by decide +kernel
theorem bf217_21 : am_fetch (am_mth 217) 21 = some (.ireturn, 1, [0], [0, 1, 2, 3, 4, 5, 6]) := by decide +kernel
theorem bf217_22 : am_fetch (am_mth 217) 22 = some (.astore 6, 2, [], [0, 1, 2, 3, 4, 5, 6]) := by decide +kernel
theorem bf217_24 : am_fetch (am_mth 217) 24 = some (.iconst 2, 1, [], [0, 1, 2, 3, 4, 5, 6]) := by decide +kernel
theorem bf217_25 : am_fetch (am_mth 217) 25 = some (.ireturn, 1, [0], [0, 1, 2, 3, 4, 5, 6]) := by decide +kernel
theorem bf217_26 : am_fetch (am_mth 217) 26 = some (.astore 6, 2, [], [0, 1, 2, 3, 4, 5, 6]) := by decide +kernel
theorem bf217_28 : am_fetch (am_mth 217) 28 = some (.iconst 3, 1, [], [0, 1, 2, 3, 4, 5, 6]) := by decide +kernel
theorem bf217_29 : am_fetch (am_mth 217) 29 = some (.ireturn, 1, [0], [0, 1, 2, 3, 4, 5, 6]) := by decide +kernel
theorem bf217_30 : am_fetch (am_mth 217) 30 = some (.iconst 0, 1, [], [0, 1, 2, 3, 4, 5, 6]) := by decide +kernel
theorem bf217_31 : am_fetch (am_mth 217) 31 = some (.ireturn, 1, [0], [0, 1, 2, 3, 4, 5, 6]) := by decide +kernel
theorem bk217_0 {w : am_Wd} {l0 : Nat} {l1 : Int32} {l2 : Int32} {l3 : Int32} {l4 : Int32} {l5 : Nat} : am_run 217 0 [some (.ref l0), some (.int l1), some (.int l2), some (.int l3), some (.int l4), some (.ref l5), none] [] w = (am_kf w l0 8).bind fun _ => (am_x 167 [.ref l0, .int l1, .int l2, .int l3, .int l4] w).bind fun r => am_af 217 8 r (fun v w' => am_run 217 11 [none, none, none, none, none, none, none] (v.toList ++ [.ref l5]) w') (fun h w' => am_run 217 h (am_nrm 217 h [none, none, none, none, none, none, none]) [] w') := by
  refine (bu (ls'' := [some (.ref l0), some (.int l1), some (.int l2), some (.int l3), some (.int l4), none, none]) (st' := [.ref l5]) bf217_0 bf217_2 rfl rfl).trans ?_
  refine (bu (ls'' := [none, some (.int l1), some (.int l2), some (.int l3), some (.int l4), none, none]) (st' := [.ref l0, .ref l5]) bf217_2 bf217_3 rfl rfl).trans ?_
  refine (bu (ls'' := [none, none, some (.int l2), some (.int l3), some (.int l4), none, none]) (st' := [.int l1, .ref l0, .ref l5]) bf217_3 bf217_4 rfl rfl).trans ?_
  refine (bu (ls'' := [none, none, none, some (.int l3), some (.int l4), none, none]) (st' := [.int l2, .int l1, .ref l0, .ref l5]) bf217_4 bf217_5 rfl rfl).trans ?_
  refine (bu (ls'' := [none, none, none, none, some (.int l4), none, none]) (st' := [.int l3, .int l2, .int l1, .ref l0, .ref l5]) bf217_5 bf217_6 rfl rfl).trans ?_
  refine (bu (ls'' := [none, none, none, none, none, none, none]) (st' := [.int l4, .int l3, .int l2, .int l1, .ref l0, .ref l5]) bf217_6 bf217_8 rfl rfl).trans ?_
  exact bkHV bf217_8 bf217_11 rfl (by decide +kernel) (Nat.le_of_ble_eq_true rfl) rfl
theorem bk217_11 {w : am_Wd} {s0 : Int32} {s1 : Nat} : am_run 217 11 [none, none, none, none, none, none, none] [.int s0, .ref s1] w = (am_pf w s1 9 0 (.long (Int32.toInt64 s0))).bind fun w' => am_run 217 15 [none, none, none, none, none, none, none] [] w' := by
  refine (bu (ls'' := [none, none, none, none, none, none, none]) (st' := [.long (Int32.toInt64 s0), .ref s1]) bf217_11 bf217_12 rfl rfl).trans ?_
  exact bh bf217_12 bf217_15 rfl (bge_pf) rfl
theorem bk217_20 {w : am_Wd}  : am_run 217 20 [none, none, none, none, none, none, none] [] w = some (.inl (some (.int (nI 1))), w) := by
  refine (bu (ls'' := [none, none, none, none, none, none, none]) (st' := [.int (nI 1)]) bf217_20 bf217_21 rfl rfl).trans ?_
  exact am_e2 bf217_21 rfl (am_ge_rf w)
theorem bk217_24 {w : am_Wd}  : am_run 217 24 [none, none, none, none, none, none, none] [] w = some (.inl (some (.int (nI 2))), w) := by
  refine (bu (ls'' := [none, none, none, none, none, none, none]) (st' := [.int (nI 2)]) bf217_24 bf217_25 rfl rfl).trans ?_
  exact am_e2 bf217_25 rfl (am_ge_rf w)
theorem bk217_28 {w : am_Wd}  : am_run 217 28 [none, none, none, none, none, none, none] [] w = some (.inl (some (.int (nI 3))), w) := by
  refine (bu (ls'' := [none, none, none, none, none, none, none]) (st' := [.int (nI 3)]) bf217_28 bf217_29 rfl rfl).trans ?_
  exact am_e2 bf217_29 rfl (am_ge_rf w)
theorem bk217_15 {w : am_Wd}  : am_run 217 15 [none, none, none, none, none, none, none] [] w = some (.inl (some (.int (nI 0))), w) := by
  refine (bu (ls'' := [none, none, none, none, none, none, none]) (st' := []) bf217_15 bf217_30 rfl rfl).trans ?_
  refine (bu (ls'' := [none, none, none, none, none, none, none]) (st' := [.int (nI 0)]) bf217_30 bf217_31 rfl rfl).trans ?_
  exact am_e2 bf217_31 rfl (am_ge_rf w)
theorem bf218_0 : am_fetch (am_mth 218) 0 = some (.aload_n 3, 1, [], [4]) := by decide +kernel
theorem bf218_1 : am_fetch (am_mth 218) 1 = some (.aload_n 0, 1, [], [3, 4]) := by decide +kernel
theorem bf218_2 : am_fetch (am_mth 218) 2 = some (.iload_n 1, 1, [], [0, 3, 4]) := by decide +kernel
theorem bf218_3 : am_fetch (am_mth 218) 3 = some (.iload_n 2, 1, [], [0, 1, 3, 4]) := by decide +kernel
theorem bf218_4 : am_fetch (am_mth 218) 4 = some (.invokevirtual 58, 3, [0, 168, 2, 8, 789, 790, 791, 46], [0, 1, 2, 3, 4]) := by decide +kernel
theorem bf218_7 : am_fetch (am_mth 218) 7 = some (.i2l, 1, [], [0, 1, 2, 3, 4]) := by decide +kernel
theorem bf218_8 : am_fetch (am_mth 218) 8 = some (.putfield 13, 3, [1, 9, 0, 485], [0, 1, 2, 3, 4]) := by decide +kernel
theorem bf218_11 : am_fetch (am_mth 218) 11 = some (.goto 15, 3, [], [0, 1, 2, 3, 4]) := by decide +kernel
theorem bf218_14 : am_fetch (am_mth 218) 14 = some (.astore 4, 2, [], [0, 1, 2, 3, 4]) := by decide +kernel
theorem bf218_16 : am_fetch (am_mth 218) 16 = some (.iconst 1, 1, [], [0, 1, 2, 3, 4]) := by decide +kernel
theorem bf218_17 : am_fetch (am_mth 218) 17 = some (.ireturn, 1, [0], [0, 1, 2, 3, 4]) := by decide +kernel
theorem bf218_18 : am_fetch (am_mth 218) 18 = some (.astore 4, 2, [], [0, 1, 2, 3, 4]) := by decide +kernel
theorem bf218_20 : am_fetch (am_mth 218) 20 = some (.iconst 2, 1, [], [0, 1, 2, 3, 4]) := by decide +kernel
theorem bf218_21 : am_fetch (am_mth 218) 21 = some (.ireturn, 1, [0], [0, 1, 2, 3, 4]) := by decide +kernel
theorem bf218_22 : am_fetch (am_mth 218) 22 = some (.astore 4, 2, [], [0, 1, 2, 3, 4]) := by decide +kernel
theorem bf218_24 : am_fetch (am_mth 218) 24 = some (.iconst 3, 1, [], [0, 1, 2, 3, 4]) := by decide +kernel
theorem bf218_25 : am_fetch (am_mth 218) 25 = some (.ireturn, 1, [0], [0, 1, 2, 3, 4]) := by decide +kernel
theorem bf218_26 : am_fetch (am_mth 218) 26 = some (.iconst 0, 1, [], [0, 1, 2, 3, 4]) := by decide +kernel
theorem bf218_27 : am_fetch (am_mth 218) 27 = some (.ireturn, 1, [0], [0, 1, 2, 3, 4]) := by decide +kernel
theorem bk218_0 {w : am_Wd} {l0 : Nat} {l1 : Int32} {l2 : Int32} {l3 : Nat} : am_run 218 0 [some (.ref l0), some (.int l1), some (.int l2), some (.ref l3), none] [] w = (am_kf w l0 8).bind fun _ => (am_x 168 [.ref l0, .int l1, .int l2] w).bind fun r => am_af 218 4 r (fun v w' => am_run 218 7 [none, none, none, none, none] (v.toList ++ [.ref l3]) w') (fun h w' => am_run 218 h (am_nrm 218 h [none, none, none, none, none]) [] w') := by
  refine (bu (ls'' := [some (.ref l0), some (.int l1), some (.int l2), none, none]) (st' := [.ref l3]) bf218_0 bf218_1 rfl rfl).trans ?_
  refine (bu (ls'' := [none, some (.int l1), some (.int l2), none, none]) (st' := [.ref l0, .ref l3]) bf218_1 bf218_2 rfl rfl).trans ?_
  refine (bu (ls'' := [none, none, some (.int l2), none, none]) (st' := [.int l1, .ref l0, .ref l3]) bf218_2 bf218_3 rfl rfl).trans ?_
  refine (bu (ls'' := [none, none, none, none, none]) (st' := [.int l2, .int l1, .ref l0, .ref l3]) bf218_3 bf218_4 rfl rfl).trans ?_
  exact bkHV bf218_4 bf218_7 rfl (by decide +kernel) (Nat.le_of_ble_eq_true rfl) rfl
theorem bk218_7 {w : am_Wd} {s0 : Int32} {s1 : Nat} : am_run 218 7 [none, none, none, none, none] [.int s0, .ref s1] w = (am_pf w s1 9 0 (.long (Int32.toInt64 s0))).bind fun w' => am_run 218 11 [none, none, none, none, none] [] w' := by
  refine (bu (ls'' := [none, none, none, none, none]) (st' := [.long (Int32.toInt64 s0), .ref s1]) bf218_7 bf218_8 rfl rfl).trans ?_
  exact bh bf218_8 bf218_11 rfl (bge_pf) rfl
theorem bk218_16 {w : am_Wd}  : am_run 218 16 [none, none, none, none, none] [] w = some (.inl (some (.int (nI 1))), w) := by
  refine (bu (ls'' := [none, none, none, none, none]) (st' := [.int (nI 1)]) bf218_16 bf218_17 rfl rfl).trans ?_
  exact am_e2 bf218_17 rfl (am_ge_rf w)
theorem bk218_20 {w : am_Wd}  : am_run 218 20 [none, none, none, none, none] [] w = some (.inl (some (.int (nI 2))), w) := by
  refine (bu (ls'' := [none, none, none, none, none]) (st' := [.int (nI 2)]) bf218_20 bf218_21 rfl rfl).trans ?_
  exact am_e2 bf218_21 rfl (am_ge_rf w)
theorem bk218_24 {w : am_Wd}  : am_run 218 24 [none, none, none, none, none] [] w = some (.inl (some (.int (nI 3))), w) := by
  refine (bu (ls'' := [none, none, none, none, none]) (st' := [.int (nI 3)]) bf218_24 bf218_25 rfl rfl).trans ?_
  exact am_e2 bf218_25 rfl (am_ge_rf w)
theorem bk218_11 {w : am_Wd}  : am_run 218 11 [none, none, none, none, none] [] w = some (.inl (some (.int (nI 0))), w) := by
  refine (bu (ls'' := [none, none, none, none, none]) (st' := []) bf218_11 bf218_26 rfl rfl).trans ?_
  refine (bu (ls'' := [none, none, none, none, none]) (st' := [.int (nI 0)]) bf218_26 bf218_27 rfl rfl).trans ?_
  exact am_e2 bf218_27 rfl (am_ge_rf w)
theorem bf219_0 : am_fetch (am_mth 219) 0 = some (.aload 4, 2, [], [5]) := by decide +kernel
theorem bf219_2 : am_fetch (am_mth 219) 2 = some (.aload_n 0, 1, [], [4, 5]) := by decide +kernel
theorem bf219_3 : am_fetch (am_mth 219) 3 = some (.iload_n 1, 1, [], [0, 4, 5]) := by decide +kernel
theorem bf219_4 : am_fetch (am_mth 219) 4 = some (.iload_n 2, 1, [], [0, 1, 4, 5]) := by decide +kernel
theorem bf219_5 : am_fetch (am_mth 219) 5 = some (.iload_n 3, 1, [], [0, 1, 2, 4, 5]) := by decide +kernel
theorem bf219_6 : am_fetch (am_mth 219) 6 = some (.invokevirtual 64, 3, [0, 169, 3, 8, 818, 308, 309, 46], [0, 1, 2, 3, 4, 5]) := by decide +kernel
theorem bf219_9 : am_fetch (am_mth 219) 9 = some (.i2l, 1, [], [0, 1, 2, 3, 4, 5]) := by decide +kernel
theorem bf219_10 : am_fetch (am_mth 219) 10 = some (.putfield 13, 3, [1, 9, 0, 485], [0, 1, 2, 3, 4, 5]) := by decide +kernel
theorem bf219_13 : am_fetch (am_mth 219) 13 = some (.goto 11, 3, [], [0, 1, 2, 3, 4, 5]) := by decide +kernel
theorem bf219_16 : am_fetch (am_mth 219) 16 = some (.astore 5, 2, [], [0, 1, 2, 3, 4, 5]) := by decide +kernel
theorem bf219_18 : am_fetch (am_mth 219) 18 = some (.iconst 1, 1, [], [0, 1, 2, 3, 4, 5]) := by decide +kernel
theorem bf219_19 : am_fetch (am_mth 219) 19 = some (.ireturn, 1, [0], [0, 1, 2, 3, 4, 5]) := by decide +kernel
theorem bf219_20 : am_fetch (am_mth 219) 20 = some (.astore 5, 2, [], [0, 1, 2, 3, 4, 5]) := by decide +kernel
theorem bf219_22 : am_fetch (am_mth 219) 22 = some (.iconst 2, 1, [], [0, 1, 2, 3, 4, 5]) := by decide +kernel
theorem bf219_23 : am_fetch (am_mth 219) 23 = some (.ireturn, 1, [0], [0, 1, 2, 3, 4, 5]) := by decide +kernel
theorem bf219_24 : am_fetch (am_mth 219) 24 = some (.iconst 0, 1, [], [0, 1, 2, 3, 4, 5]) := by decide +kernel
theorem bf219_25 : am_fetch (am_mth 219) 25 = some (.ireturn, 1, [0], [0, 1, 2, 3, 4, 5]) := by decide +kernel
theorem bk219_0 {w : am_Wd} {l0 : Nat} {l1 : Int32} {l2 : Int32} {l3 : Int32} {l4 : Nat} : am_run 219 0 [some (.ref l0), some (.int l1), some (.int l2), some (.int l3), some (.ref l4), none] [] w = (am_kf w l0 8).bind fun _ => (am_x 169 [.ref l0, .int l1, .int l2, .int l3] w).bind fun r => am_af 219 6 r (fun v w' => am_run 219 9 [none, none, none, none, none, none] (v.toList ++ [.ref l4]) w') (fun h w' => am_run 219 h (am_nrm 219 h [none, none, none, none, none, none]) [] w') := by
  refine (bu (ls'' := [some (.ref l0), some (.int l1), some (.int l2), some (.int l3), none, none]) (st' := [.ref l4]) bf219_0 bf219_2 rfl rfl).trans ?_
  refine (bu (ls'' := [none, some (.int l1), some (.int l2), some (.int l3), none, none]) (st' := [.ref l0, .ref l4]) bf219_2 bf219_3 rfl rfl).trans ?_
  refine (bu (ls'' := [none, none, some (.int l2), some (.int l3), none, none]) (st' := [.int l1, .ref l0, .ref l4]) bf219_3 bf219_4 rfl rfl).trans ?_
  refine (bu (ls'' := [none, none, none, some (.int l3), none, none]) (st' := [.int l2, .int l1, .ref l0, .ref l4]) bf219_4 bf219_5 rfl rfl).trans ?_
  refine (bu (ls'' := [none, none, none, none, none, none]) (st' := [.int l3, .int l2, .int l1, .ref l0, .ref l4]) bf219_5 bf219_6 rfl rfl).trans ?_
  exact bkHV bf219_6 bf219_9 rfl (by decide +kernel) (Nat.le_of_ble_eq_true rfl) rfl
theorem bk219_9 {w : am_Wd} {s0 : Int32} {s1 : Nat} : am_run 219 9 [none, none, none, none, none, none] [.int s0, .ref s1] w = (am_pf w s1 9 0 (.long (Int32.toInt64 s0))).bind fun w' => am_run 219 13 [none, none, none, none, none, none] [] w' := by
  refine (bu (ls'' := [none, none, none, none, none, none]) (st' := [.long (Int32.toInt64 s0), .ref s1]) bf219_9 bf219_10 rfl rfl).trans ?_
  exact bh bf219_10 bf219_13 rfl (bge_pf) rfl
theorem bk219_18 {w : am_Wd}  : am_run 219 18 [none, none, none, none, none, none] [] w = some (.inl (some (.int (nI 1))), w) := by
  refine (bu (ls'' := [none, none, none, none, none, none]) (st' := [.int (nI 1)]) bf219_18 bf219_19 rfl rfl).trans ?_
  exact am_e2 bf219_19 rfl (am_ge_rf w)
theorem bk219_22 {w : am_Wd}  : am_run 219 22 [none, none, none, none, none, none] [] w = some (.inl (some (.int (nI 2))), w) := by
  refine (bu (ls'' := [none, none, none, none, none, none]) (st' := [.int (nI 2)]) bf219_22 bf219_23 rfl rfl).trans ?_
  exact am_e2 bf219_23 rfl (am_ge_rf w)
theorem bk219_13 {w : am_Wd}  : am_run 219 13 [none, none, none, none, none, none] [] w = some (.inl (some (.int (nI 0))), w) := by
  refine (bu (ls'' := [none, none, none, none, none, none]) (st' := []) bf219_13 bf219_24 rfl rfl).trans ?_
  refine (bu (ls'' := [none, none, none, none, none, none]) (st' := [.int (nI 0)]) bf219_24 bf219_25 rfl rfl).trans ?_
  exact am_e2 bf219_25 rfl (am_ge_rf w)
theorem bf220_0 : am_fetch (am_mth 220) 0 = some (.aload_n 3, 1, [], [4]) := by decide +kernel
theorem bf220_1 : am_fetch (am_mth 220) 1 = some (.aload_n 0, 1, [], [3, 4]) := by decide +kernel
theorem bf220_2 : am_fetch (am_mth 220) 2 = some (.iload_n 1, 1, [], [0, 3, 4]) := by decide +kernel
theorem bf220_3 : am_fetch (am_mth 220) 3 = some (.iload_n 2, 1, [], [0, 1, 3, 4]) := by decide +kernel
theorem bf220_4 : am_fetch (am_mth 220) 4 = some (.invokevirtual 113, 3, [0, 170, 2, 8, 1147, 1148, 1149, 46], [0, 1, 2, 3, 4]) := by decide +kernel
theorem bf220_7 : am_fetch (am_mth 220) 7 = some (.i2l, 1, [], [0, 1, 2, 3, 4]) := by decide +kernel
theorem bf220_8 : am_fetch (am_mth 220) 8 = some (.putfield 13, 3, [1, 9, 0, 485], [0, 1, 2, 3, 4]) := by decide +kernel
theorem bf220_11 : am_fetch (am_mth 220) 11 = some (.goto 11, 3, [], [0, 1, 2, 3, 4]) := by decide +kernel
theorem bf220_14 : am_fetch (am_mth 220) 14 = some (.astore 4, 2, [], [0, 1, 2, 3, 4]) := by decide +kernel
theorem bf220_16 : am_fetch (am_mth 220) 16 = some (.iconst 1, 1, [], [0, 1, 2, 3, 4]) := by decide +kernel
theorem bf220_17 : am_fetch (am_mth 220) 17 = some (.ireturn, 1, [0], [0, 1, 2, 3, 4]) := by decide +kernel
theorem bf220_18 : am_fetch (am_mth 220) 18 = some (.astore 4, 2, [], [0, 1, 2, 3, 4]) := by decide +kernel
theorem bf220_20 : am_fetch (am_mth 220) 20 = some (.iconst 2, 1, [], [0, 1, 2, 3, 4]) := by decide +kernel
theorem bf220_21 : am_fetch (am_mth 220) 21 = some (.ireturn, 1, [0], [0, 1, 2, 3, 4]) := by decide +kernel
theorem bf220_22 : am_fetch (am_mth 220) 22 = some (.iconst 0, 1, [], [0, 1, 2, 3, 4]) := by decide +kernel
theorem bf220_23 : am_fetch (am_mth 220) 23 = some (.ireturn, 1, [0], [0, 1, 2, 3, 4]) := by decide +kernel
theorem bk220_0 {w : am_Wd} {l0 : Nat} {l1 : Int32} {l2 : Int32} {l3 : Nat} : am_run 220 0 [some (.ref l0), some (.int l1), some (.int l2), some (.ref l3), none] [] w = (am_kf w l0 8).bind fun _ => (am_x 170 [.ref l0, .int l1, .int l2] w).bind fun r => am_af 220 4 r (fun v w' => am_run 220 7 [none, none, none, none, none] (v.toList ++ [.ref l3]) w') (fun h w' => am_run 220 h (am_nrm 220 h [none, none, none, none, none]) [] w') := by
  refine (bu (ls'' := [some (.ref l0), some (.int l1), some (.int l2), none, none]) (st' := [.ref l3]) bf220_0 bf220_1 rfl rfl).trans ?_
  refine (bu (ls'' := [none, some (.int l1), some (.int l2), none, none]) (st' := [.ref l0, .ref l3]) bf220_1 bf220_2 rfl rfl).trans ?_
  refine (bu (ls'' := [none, none, some (.int l2), none, none]) (st' := [.int l1, .ref l0, .ref l3]) bf220_2 bf220_3 rfl rfl).trans ?_
  refine (bu (ls'' := [none, none, none, none, none]) (st' := [.int l2, .int l1, .ref l0, .ref l3]) bf220_3 bf220_4 rfl rfl).trans ?_
  exact bkHV bf220_4 bf220_7 rfl (by decide +kernel) (Nat.le_of_ble_eq_true rfl) rfl
theorem bk220_7 {w : am_Wd} {s0 : Int32} {s1 : Nat} : am_run 220 7 [none, none, none, none, none] [.int s0, .ref s1] w = (am_pf w s1 9 0 (.long (Int32.toInt64 s0))).bind fun w' => am_run 220 11 [none, none, none, none, none] [] w' := by
  refine (bu (ls'' := [none, none, none, none, none]) (st' := [.long (Int32.toInt64 s0), .ref s1]) bf220_7 bf220_8 rfl rfl).trans ?_
  exact bh bf220_8 bf220_11 rfl (bge_pf) rfl
theorem bk220_16 {w : am_Wd}  : am_run 220 16 [none, none, none, none, none] [] w = some (.inl (some (.int (nI 1))), w) := by
  refine (bu (ls'' := [none, none, none, none, none]) (st' := [.int (nI 1)]) bf220_16 bf220_17 rfl rfl).trans ?_
  exact am_e2 bf220_17 rfl (am_ge_rf w)
theorem bk220_20 {w : am_Wd}  : am_run 220 20 [none, none, none, none, none] [] w = some (.inl (some (.int (nI 2))), w) := by
  refine (bu (ls'' := [none, none, none, none, none]) (st' := [.int (nI 2)]) bf220_20 bf220_21 rfl rfl).trans ?_
  exact am_e2 bf220_21 rfl (am_ge_rf w)
theorem bk220_11 {w : am_Wd}  : am_run 220 11 [none, none, none, none, none] [] w = some (.inl (some (.int (nI 0))), w) := by
  refine (bu (ls'' := [none, none, none, none, none]) (st' := []) bf220_11 bf220_22 rfl rfl).trans ?_
  refine (bu (ls'' := [none, none, none, none, none]) (st' := [.int (nI 0)]) bf220_22 bf220_23 rfl rfl).trans ?_
  exact am_e2 bf220_23 rfl (am_ge_rf w)
theorem bf223_0 : am_fetch (am_mth 223) 0 = some (.aload_n 0, 1, [], [3]) := by decide +kernel
theorem bf223_1 : am_fetch (am_mth 223) 1 = some (.iload_n 1, 1, [], [0, 3]) := by decide +kernel
theorem bf223_2 : am_fetch (am_mth 223) 2 = some (.invokevirtual 89, 3, [0, 31, 1, 8, 352, 354, 4, 46], [0, 1, 3]) := by decide +kernel
theorem bf223_5 : am_fetch (am_mth 223) 5 = some (.astore_n 3, 1, [], [0, 1, 3]) := by decide +kernel
theorem bf223_6 : am_fetch (am_mth 223) 6 = some (.iload_n 2, 1, [], [0, 1]) := by decide +kernel
theorem bf223_7 : am_fetch (am_mth 223) 7 = some (.iconst 0, 1, [], [0, 1]) := by decide +kernel
theorem bf223_8 : am_fetch (am_mth 223) 8 = some (.iconst 3, 1, [], [0, 1]) := by decide +kernel
theorem bf223_9 : am_fetch (am_mth 223) 9 = some (.invokestatic 43, 3, [0, 92, 3, 220, 221, 46], [0, 1]) := by decide +kernel
theorem bf223_12 : am_fetch (am_mth 223) 12 = some (.iload_n 2, 1, [], [0, 1]) := by decide +kernel
theorem bf223_13 : am_fetch (am_mth 223) 13 = some (.tableswitch 48 0 2 #[27, 32, 40], 27, [], [0, 1, 2]) := by decide +kernel
theorem bf223_40 : am_fetch (am_mth 223) 40 = some (.aload_n 3, 1, [], [0, 1, 2]) := by decide +kernel
theorem bf223_41 : am_fetch (am_mth 223) 41 = some (.invokevirtual 262, 3, [0, 162, 0, 6, 376, 377, 378, 63], [0, 1, 2, 3]) := by decide +kernel
theorem bf223_44 : am_fetch (am_mth 223) 44 = some (.ireturn, 1, [0], [0, 1, 2, 3]) := by decide +kernel
theorem bf223_45 : am_fetch (am_mth 223) 45 = some (.aload_n 3, 1, [], [0, 1, 2]) := by decide +kernel
theorem bf223_46 : am_fetch (am_mth 223) 46 = some (.invokevirtual 262, 3, [0, 162, 0, 6, 376, 377, 378, 63], [0, 1, 2, 3]) := by decide +kernel
theorem bf223_49 : am_fetch (am_mth 223) 49 = some (.invokestatic 265, 3, [0, 19, 1, 395, 396, 63], [0, 1, 2, 3]) := by decide +kernel
theorem bf223_52 : am_fetch (am_mth 223) 52 = some (.ireturn, 1, [0], [0, 1, 2, 3]) := by decide +kernel
theorem bf223_53 : am_fetch (am_mth 223) 53 = some (.aload_n 3, 1, [], [0, 1, 2]) := by decide +kernel
theorem bf223_54 : am_fetch (am_mth 223) 54 = some (.invokevirtual 268, 3, [0, 199, 0, 6, 398, 399, 400, 63], [0, 1, 2, 3]) := by decide +kernel
theorem bf223_57 : am_fetch (am_mth 223) 57 = some (.invokestatic 200, 3, [0, 26, 1, 339, 200, 46], [0, 1, 2, 3]) := by decide +kernel
theorem bf223_60 : am_fetch (am_mth 223) 60 = some (.ireturn, 1, [0], [0, 1, 2, 3]) := by decide +kernel
theorem bf223_61 : am_fetch (am_mth 223) 61 = some (.aload_n 3, 1, [], [0, 1, 2]) := by decide +kernel
theorem bf223_62 : am_fetch (am_mth 223) 62 = some (.invokevirtual 271, 3, [0, 163, 0, 6, 404, 405, 406, 63], [0, 1, 2, 3]) := by decide +kernel
theorem bf223_65 : am_fetch (am_mth 223) 65 = some (.ireturn, 1, [0], [0, 1, 2, 3]) := by decide +kernel
theorem bk223_0 {w : am_Wd} {l0 : Nat} {l1 : Int32} {l2 : Int32} : am_run 223 0 [some (.ref l0), some (.int l1), some (.int l2), none] [] w = (am_kf w l0 8).bind fun _ => (am_x 31 [.ref l0, .int l1] w).bind fun r => bct r fun v w' => am_run 223 5 [none, none, some (.int l2), none] (v.toList ++ []) w' := by
  refine (bu (ls'' := [none, some (.int l1), some (.int l2), none]) (st' := [.ref l0]) bf223_0 bf223_1 rfl rfl).trans ?_
  refine (bu (ls'' := [none, none, some (.int l2), none]) (st' := [.int l1, .ref l0]) bf223_1 bf223_2 rfl rfl).trans ?_
  exact bkV bf223_2 bf223_5 rfl (by decide +kernel) (Nat.le_of_ble_eq_true rfl) rfl (bhd rfl)
theorem bk223_5 {w : am_Wd} {l2 : Int32} {s0 : Nat} : am_run 223 5 [none, none, some (.int l2), none] [.ref s0] w = (am_x 92 [.int l2, .int (nI 0), .int (nI 3)] w).bind fun r => bct r fun v w' => am_run 223 12 [none, none, some (.int l2), some (.ref s0)] (v.toList ++ []) w' := by
  refine (bu (ls'' := [none, none, some (.int l2), some (.ref s0)]) (st' := []) bf223_5 bf223_6 rfl rfl).trans ?_
  refine (bu (ls'' := [none, none, some (.int l2), some (.ref s0)]) (st' := [.int l2]) bf223_6 bf223_7 rfl rfl).trans ?_
  refine (bu (ls'' := [none, none, some (.int l2), some (.ref s0)]) (st' := [.int (nI 0), .int l2]) bf223_7 bf223_8 rfl rfl).trans ?_
  refine (bu (ls'' := [none, none, some (.int l2), some (.ref s0)]) (st' := [.int (nI 3), .int (nI 0), .int l2]) bf223_8 bf223_9 rfl rfl).trans ?_
  exact bkS bf223_9 bf223_12 rfl (by decide +kernel) (Nat.le_of_ble_eq_true rfl) rfl (bhd rfl)
theorem bk223_12 {w : am_Wd} {l2 : Int32} {l3 : Nat} : am_run 223 12 [none, none, some (.int l2), some (.ref l3)] [] w = if l2 = (nI 0) then am_run 223 40 [none, none, none, some (.ref l3)] [] w else if l2 = (nI 1) then am_run 223 45 [none, none, none, some (.ref l3)] [] w else if l2 = (nI 2) then am_run 223 53 [none, none, none, some (.ref l3)] [] w else am_run 223 61 [none, none, none, some (.ref l3)] [] w := by
  refine (bu (ls'' := [none, none, none, some (.ref l3)]) (st' := [.int l2]) bf223_12 bf223_13 rfl rfl).trans ?_
  refine bsw (fun q => ?_) (fun q0 => ?_)
  · exact bu (ls' := [none, none, none, some (.ref l3)]) (ls'' := [none, none, none, some (.ref l3)]) (st' := []) bf223_13 bf223_40 (by rw [q]; rfl) rfl
  refine bsw (fun q => ?_) (fun q1 => ?_)
  · exact bu (ls' := [none, none, none, some (.ref l3)]) (ls'' := [none, none, none, some (.ref l3)]) (st' := []) bf223_13 bf223_45 (by rw [q]; rfl) rfl
  refine bsw (fun q => ?_) (fun q2 => ?_)
  · exact bu (ls' := [none, none, none, some (.ref l3)]) (ls'' := [none, none, none, some (.ref l3)]) (st' := []) bf223_13 bf223_53 (by rw [q]; rfl) rfl
  exact bsd bf223_13 bf223_61 rfl rfl (bcon (by rfl) q0 (bcon (by rfl) q1 (bcon (by rfl) q2 (bnil)))) rfl
theorem bk223_40 {w : am_Wd} {l3 : Nat} : am_run 223 40 [none, none, none, some (.ref l3)] [] w = (am_kf w l3 6).bind fun _ => (am_x 162 [.ref l3] w).bind fun r => bct r fun v w' => am_run 223 44 [none, none, none, none] (v.toList ++ []) w' := by
  refine (bu (ls'' := [none, none, none, none]) (st' := [.ref l3]) bf223_40 bf223_41 rfl rfl).trans ?_
  exact bkV bf223_41 bf223_44 rfl (by decide +kernel) (Nat.le_of_ble_eq_true rfl) rfl (bhd rfl)
theorem bk223_45 {w : am_Wd} {l3 : Nat} : am_run 223 45 [none, none, none, some (.ref l3)] [] w = (am_kf w l3 6).bind fun _ => (am_x 162 [.ref l3] w).bind fun r => bct r fun v w' => am_run 223 49 [none, none, none, none] (v.toList ++ []) w' := by
  refine (bu (ls'' := [none, none, none, none]) (st' := [.ref l3]) bf223_45 bf223_46 rfl rfl).trans ?_
  exact bkV bf223_46 bf223_49 rfl (by decide +kernel) (Nat.le_of_ble_eq_true rfl) rfl (bhd rfl)
theorem bk223_53 {w : am_Wd} {l3 : Nat} : am_run 223 53 [none, none, none, some (.ref l3)] [] w = (am_kf w l3 6).bind fun _ => (am_x 199 [.ref l3] w).bind fun r => bct r fun v w' => am_run 223 57 [none, none, none, none] (v.toList ++ []) w' := by
  refine (bu (ls'' := [none, none, none, none]) (st' := [.ref l3]) bf223_53 bf223_54 rfl rfl).trans ?_
  exact bkV bf223_54 bf223_57 rfl (by decide +kernel) (Nat.le_of_ble_eq_true rfl) rfl (bhd rfl)
theorem bk223_61 {w : am_Wd} {l3 : Nat} : am_run 223 61 [none, none, none, some (.ref l3)] [] w = (am_kf w l3 6).bind fun _ => (am_x 163 [.ref l3] w).bind fun r => bct r fun v w' => am_run 223 65 [none, none, none, none] (v.toList ++ []) w' := by
  refine (bu (ls'' := [none, none, none, none]) (st' := [.ref l3]) bf223_61 bf223_62 rfl rfl).trans ?_
  exact bkV bf223_62 bf223_65 rfl (by decide +kernel) (Nat.le_of_ble_eq_true rfl) rfl (bhd rfl)
theorem bk223_44 {w : am_Wd} {s0 : Int32} : am_run 223 44 [none, none, none, none] [.int s0] w = some (.inl (some (.int s0)), w) := by
  exact am_e2 bf223_44 rfl (am_ge_rf w)
theorem bk223_49 {w : am_Wd} {s0 : Int32} : am_run 223 49 [none, none, none, none] [.int s0] w = (am_x 19 [.int s0] w).bind fun r => bct r fun v w' => am_run 223 52 [none, none, none, none] (v.toList ++ []) w' := by
  exact bkS bf223_49 bf223_52 rfl (by decide +kernel) (Nat.le_of_ble_eq_true rfl) rfl (bhd rfl)
theorem bk223_57 {w : am_Wd} {s0 : Int32} : am_run 223 57 [none, none, none, none] [.int s0] w = (am_x 26 [.int s0] w).bind fun r => bct r fun v w' => am_run 223 60 [none, none, none, none] (v.toList ++ []) w' := by
  exact bkS bf223_57 bf223_60 rfl (by decide +kernel) (Nat.le_of_ble_eq_true rfl) rfl (bhd rfl)
theorem bk223_65 {w : am_Wd} {s0 : Int32} : am_run 223 65 [none, none, none, none] [.int s0] w = some (.inl (some (.int s0)), w) := by
  exact am_e2 bf223_65 rfl (am_ge_rf w)
theorem bk223_52 {w : am_Wd} {s0 : Int32} : am_run 223 52 [none, none, none, none] [.int s0] w = some (.inl (some (.int s0)), w) := by
  exact am_e2 bf223_52 rfl (am_ge_rf w)
theorem bk223_60 {w : am_Wd} {s0 : Int32} : am_run 223 60 [none, none, none, none] [.int s0] w = some (.inl (some (.int s0)), w) := by
  exact am_e2 bf223_60 rfl (am_ge_rf w)
theorem bf224_0 : am_fetch (am_mth 224) 0 = some (.iconst 0, 1, [], [1, 2]) := by decide +kernel
theorem bf224_1 : am_fetch (am_mth 224) 1 = some (.istore_n 1, 1, [], [1, 2]) := by decide +kernel
theorem bf224_2 : am_fetch (am_mth 224) 2 = some (.iload_n 1, 1, [], [2]) := by decide +kernel
theorem bf224_3 : am_fetch (am_mth 224) 3 = some (.aload_n 0, 1, [], [2]) := by decide +kernel
theorem bf224_4 : am_fetch (am_mth 224) 4 = some (.getfield 18, 3, [0, 8, 1, 112], [2]) := by decide +kernel
theorem bf224_7 : am_fetch (am_mth 224) 7 = some (.arraylength, 1, [], [2]) := by decide +kernel
theorem bf224_8 : am_fetch (am_mth 224) 8 = some (.if_icmp .ge 37, 3, [], [2]) := by decide +kernel
theorem bf224_11 : am_fetch (am_mth 224) 11 = some (.aload_n 0, 1, [], [2]) := by decide +kernel
theorem bf224_12 : am_fetch (am_mth 224) 12 = some (.getfield 18, 3, [0, 8, 1, 112], [2]) := by decide +kernel
theorem bf224_15 : am_fetch (am_mth 224) 15 = some (.iload_n 1, 1, [], [2]) := by decide +kernel
theorem bf224_16 : am_fetch (am_mth 224) 16 = some (.aaload, 1, [], [2]) := by decide +kernel
theorem bf224_17 : am_fetch (am_mth 224) 17 = some (.astore_n 2, 1, [], [2]) := by decide +kernel
theorem bf224_18 : am_fetch (am_mth 224) 18 = some (.aload_n 2, 1, [], []) := by decide +kernel
theorem bf224_19 : am_fetch (am_mth 224) 19 = some (.ifnull 20, 3, [], []) := by decide +kernel
theorem bf224_22 : am_fetch (am_mth 224) 22 = some (.aload_n 2, 1, [], []) := by decide +kernel
theorem bf224_23 : am_fetch (am_mth 224) 23 = some (.invokevirtual 287, 3, [0, 130, 0, 6, 147, 148, 149, 63], []) := by decide +kernel
theorem bf224_26 : am_fetch (am_mth 224) 26 = some (.ifCond .eq 11, 3, [], []) := by decide +kernel
theorem bf224_29 : am_fetch (am_mth 224) 29 = some (.aload_n 0, 1, [], []) := by decide +kernel
theorem bf224_30 : am_fetch (am_mth 224) 30 = some (.aload_n 2, 1, [], []) := by decide +kernel
theorem bf224_31 : am_fetch (am_mth 224) 31 = some (.invokevirtual 290, 3, [0, 205, 1, 8, 161, 163, 0, 46], [2]) := by decide +kernel
theorem bf224_34 : am_fetch (am_mth 224) 34 = some (.ifCond .ne 5, 3, [], [2]) := by decide +kernel
theorem bf224_37 : am_fetch (am_mth 224) 37 = some (.iconst 0, 1, [], [0, 1, 2]) := by decide +kernel
theorem bf224_38 : am_fetch (am_mth 224) 38 = some (.ireturn, 1, [1], [0, 1, 2]) := by decide +kernel
theorem bf224_39 : am_fetch (am_mth 224) 39 = some (.iinc 1 1, 3, [], [2]) := by decide +kernel
theorem bf224_42 : am_fetch (am_mth 224) 42 = some (.goto (-40), 3, [], [2]) := by decide +kernel
theorem bf224_45 : am_fetch (am_mth 224) 45 = some (.iconst 1, 1, [], [0, 1, 2]) := by decide +kernel
theorem bf224_46 : am_fetch (am_mth 224) 46 = some (.ireturn, 1, [1], [0, 1, 2]) := by decide +kernel
theorem bk224_0 {w : am_Wd} {l0 : Nat} : am_run 224 0 [some (.ref l0), none, none] [] w = am_run 224 2 [some (.ref l0), some (.int (nI 0)), none] [] w := by
  refine (bu (ls'' := [some (.ref l0), none, none]) (st' := [.int (nI 0)]) bf224_0 bf224_1 rfl rfl).trans ?_
  refine (bu (ls'' := [some (.ref l0), some (.int (nI 0)), none]) (st' := []) bf224_1 bf224_2 rfl rfl).trans ?_
  rfl
theorem bk224_2 {w : am_Wd} {l0 : Nat} {l1 : Int32} : am_run 224 2 [some (.ref l0), some (.int l1), none] [] w = (am_gf w l0 8 1).bind fun v => am_run 224 7 [some (.ref l0), some (.int l1), none] (v :: [.int l1]) w := by
  refine (bu (ls'' := [some (.ref l0), some (.int l1), none]) (st' := [.int l1]) bf224_2 bf224_3 rfl rfl).trans ?_
  refine (bu (ls'' := [some (.ref l0), some (.int l1), none]) (st' := [.ref l0, .int l1]) bf224_3 bf224_4 rfl rfl).trans ?_
  exact bh bf224_4 bf224_7 rfl (fun _ _ => am_ge_rf w) rfl
theorem bk224_7 {w : am_Wd} {l0 : Nat} {l1 : Int32} {s0 : Nat} {s1 : Int32} : am_run 224 7 [some (.ref l0), some (.int l1), none] [.ref s0, .int s1] w = (am_len w s0).bind fun v => am_run 224 8 [some (.ref l0), some (.int l1), none] (.int (nI v) :: [.int s1]) w := by
  exact bh bf224_7 bf224_8 rfl (fun _ _ => am_ge_rf w) rfl
theorem bk224_8 {w : am_Wd} {l0 : Nat} {l1 : Int32} {s0 : Int32} {s1 : Int32} : am_run 224 8 [some (.ref l0), some (.int l1), none] [.int s0, .int s1] w = if s0 ≤ s1 then am_run 224 45 [none, none, none] [] w else am_run 224 11 [some (.ref l0), some (.int l1), none] [] w := by
  exact bic bf224_8 rfl bf224_45 bf224_11 rfl rfl rfl
theorem bk224_45 {w : am_Wd}  : am_run 224 45 [none, none, none] [] w = some (.inl (some (.int (nI 1))), w) := by
  refine (bu (ls'' := [none, none, none]) (st' := [.int (nI 1)]) bf224_45 bf224_46 rfl rfl).trans ?_
  exact am_e2 bf224_46 rfl (am_ge_rf w)
theorem bk224_11 {w : am_Wd} {l0 : Nat} {l1 : Int32} : am_run 224 11 [some (.ref l0), some (.int l1), none] [] w = (am_gf w l0 8 1).bind fun v => am_run 224 15 [some (.ref l0), some (.int l1), none] (v :: []) w := by
  refine (bu (ls'' := [some (.ref l0), some (.int l1), none]) (st' := [.ref l0]) bf224_11 bf224_12 rfl rfl).trans ?_
  exact bh bf224_12 bf224_15 rfl (fun _ _ => am_ge_rf w) rfl
theorem bk224_15 {w : am_Wd} {l0 : Nat} {l1 : Int32} {s0 : Nat} : am_run 224 15 [some (.ref l0), some (.int l1), none] [.ref s0] w = (am_rq w s0 l1).bind fun v => am_run 224 17 [some (.ref l0), some (.int l1), none] (v :: []) w := by
  refine (bu (ls'' := [some (.ref l0), some (.int l1), none]) (st' := [.int l1, .ref s0]) bf224_15 bf224_16 rfl rfl).trans ?_
  exact bh bf224_16 bf224_17 rfl (fun _ _ => am_ge_rf w) rfl
theorem bk224_17 {w : am_Wd} {l0 : Nat} {l1 : Int32} {s0 : Nat} : am_run 224 17 [some (.ref l0), some (.int l1), none] [.ref s0] w = (am_kf w s0 6).bind fun _ => (am_x 130 [.ref s0] w).bind fun r => bct r fun v w' => am_run 224 26 [some (.ref l0), some (.int l1), some (.ref s0)] (v.toList ++ []) w' := by
  refine (bu (ls'' := [some (.ref l0), some (.int l1), some (.ref s0)]) (st' := []) bf224_17 bf224_18 rfl rfl).trans ?_
  refine (bu (ls'' := [some (.ref l0), some (.int l1), some (.ref s0)]) (st' := [.ref s0]) bf224_18 bf224_19 rfl rfl).trans ?_
  refine (bu (ls'' := [some (.ref l0), some (.int l1), some (.ref s0)]) (st' := []) bf224_19 bf224_22 rfl rfl).trans ?_
  refine (bu (ls'' := [some (.ref l0), some (.int l1), some (.ref s0)]) (st' := [.ref s0]) bf224_22 bf224_23 rfl rfl).trans ?_
  exact bkV bf224_23 bf224_26 rfl (by decide +kernel) (Nat.le_of_ble_eq_true rfl) rfl (bhd rfl)
theorem bk224_17a {w : am_Wd} {l0 : Nat} {l1 : Int32} : am_run 224 17 [some (.ref l0), some (.int l1), none] [.null] w = am_run 224 39 [some (.ref l0), some (.int l1), none] [] w := by
  refine (bu (ls'' := [some (.ref l0), some (.int l1), some (.null)]) (st' := []) bf224_17 bf224_18 rfl rfl).trans ?_
  refine (bu (ls'' := [some (.ref l0), some (.int l1), some (.null)]) (st' := [.null]) bf224_18 bf224_19 rfl rfl).trans ?_
  refine (bu (ls'' := [some (.ref l0), some (.int l1), none]) (st' := []) bf224_19 bf224_39 rfl rfl).trans ?_
  rfl
theorem bk224_26 {w : am_Wd} {l0 : Nat} {l1 : Int32} {l2 : Nat} {s0 : Int32} : am_run 224 26 [some (.ref l0), some (.int l1), some (.ref l2)] [.int s0] w = if s0 = nI 0 then am_run 224 37 [none, none, none] [] w else am_run 224 29 [some (.ref l0), some (.int l1), some (.ref l2)] [] w := by
  exact bifc bf224_26 rfl bf224_37 bf224_29 rfl rfl rfl
theorem bk224_39 {w : am_Wd} {l0 : Nat} {l1 : Int32} : am_run 224 39 [some (.ref l0), some (.int l1), none] [] w = am_run 224 2 [some (.ref l0), some (.int (l1 + (nI 1))), none] [] w := by
  refine (bu (ls'' := [some (.ref l0), some (.int (l1 + (nI 1))), none]) (st' := []) bf224_39 bf224_42 rfl rfl).trans ?_
  refine (bu (ls'' := [some (.ref l0), some (.int (l1 + (nI 1))), none]) (st' := []) bf224_42 bf224_2 rfl rfl).trans ?_
  rfl
theorem bk224_37 {w : am_Wd}  : am_run 224 37 [none, none, none] [] w = some (.inl (some (.int (nI 0))), w) := by
  refine (bu (ls'' := [none, none, none]) (st' := [.int (nI 0)]) bf224_37 bf224_38 rfl rfl).trans ?_
  exact am_e2 bf224_38 rfl (am_ge_rf w)
theorem bk224_29 {w : am_Wd} {l0 : Nat} {l1 : Int32} {l2 : Nat} : am_run 224 29 [some (.ref l0), some (.int l1), some (.ref l2)] [] w = (am_kf w l0 8).bind fun _ => (am_x 205 [.ref l0, .ref l2] w).bind fun r => bct r fun v w' => am_run 224 34 [some (.ref l0), some (.int l1), none] (v.toList ++ []) w' := by
  refine (bu (ls'' := [some (.ref l0), some (.int l1), some (.ref l2)]) (st' := [.ref l0]) bf224_29 bf224_30 rfl rfl).trans ?_
  refine (bu (ls'' := [some (.ref l0), some (.int l1), none]) (st' := [.ref l2, .ref l0]) bf224_30 bf224_31 rfl rfl).trans ?_
  exact bkV bf224_31 bf224_34 rfl (by decide +kernel) (Nat.le_of_ble_eq_true rfl) rfl (bhd rfl)
theorem bk224_34 {w : am_Wd} {l0 : Nat} {l1 : Int32} {s0 : Int32} : am_run 224 34 [some (.ref l0), some (.int l1), none] [.int s0] w = if ¬ s0 = nI 0 then am_run 224 39 [some (.ref l0), some (.int l1), none] [] w else am_run 224 37 [none, none, none] [] w := by
  exact bifc bf224_34 rfl bf224_39 bf224_37 rfl rfl rfl
theorem bf225_0 : am_fetch (am_mth 225) 0 = some (.aload_n 1, 1, [], []) := by decide +kernel
theorem bf225_1 : am_fetch (am_mth 225) 1 = some (.getfield 158, 3, [1, 6, 4, 619], []) := by decide +kernel
theorem bf225_4 : am_fetch (am_mth 225) 4 = some (.ifCond .gt 14, 3, [], []) := by decide +kernel
theorem bf225_7 : am_fetch (am_mth 225) 7 = some (.new 79, 3, [2, 2, 545, 62, 657, 349, 83], [0, 1, 2]) := by decide +kernel
theorem bf225_10 : am_fetch (am_mth 225) 10 = some (.dup, 1, [], [0, 1, 2]) := by decide +kernel
theorem bf225_11 : am_fetch (am_mth 225) 11 = some (.ldc_w 349, 3, [1, 21, 657], [0, 1, 2]) := by decide +kernel
theorem bf225_14 : am_fetch (am_mth 225) 14 = some (.invokespecial 83, 3, [], [0, 1, 2]) := by decide +kernel
theorem bf225_17 : am_fetch (am_mth 225) 17 = some (.athrow, 1, [], [0, 1, 2]) := by decide +kernel
theorem bf225_18 : am_fetch (am_mth 225) 18 = some (.iload_n 2, 1, [], []) := by decide +kernel
theorem bf225_19 : am_fetch (am_mth 225) 19 = some (.ifCond .ne 21, 3, [], [2]) := by decide +kernel
theorem bf225_22 : am_fetch (am_mth 225) 22 = some (.aload_n 1, 1, [], [2]) := by decide +kernel
theorem bf225_23 : am_fetch (am_mth 225) 23 = some (.invokevirtual 268, 3, [0, 199, 0, 6, 398, 399, 400, 63], [1, 2]) := by decide +kernel
theorem bf225_26 : am_fetch (am_mth 225) 26 = some (.ifCond .ne 14, 3, [], [1, 2]) := by decide +kernel
theorem bf225_29 : am_fetch (am_mth 225) 29 = some (.new 79, 3, [2, 2, 545, 62, 658, 351, 83], [0, 1, 2]) := by decide +kernel
theorem bf225_32 : am_fetch (am_mth 225) 32 = some (.dup, 1, [], [0, 1, 2]) := by decide +kernel
theorem bf225_33 : am_fetch (am_mth 225) 33 = some (.ldc_w 351, 3, [1, 22, 658], [0, 1, 2]) := by decide +kernel
theorem bf225_36 : am_fetch (am_mth 225) 36 = some (.invokespecial 83, 3, [], [0, 1, 2]) := by decide +kernel
theorem bf225_39 : am_fetch (am_mth 225) 39 = some (.athrow, 1, [], [0, 1, 2]) := by decide +kernel
theorem bf225_40 : am_fetch (am_mth 225) 40 = some (.aload_n 0, 1, [], [1, 2]) := by decide +kernel
theorem bf225_41 : am_fetch (am_mth 225) 41 = some (.getfield 192, 3, [0, 8, 3, 114], [0, 1, 2]) := by decide +kernel
theorem bf225_44 : am_fetch (am_mth 225) 44 = some (.sipush 3000, 3, [], [0, 1, 2]) := by decide +kernel
theorem bf225_47 : am_fetch (am_mth 225) 47 = some (.if_icmp .lt 14, 3, [], [0, 1, 2]) := by decide +kernel
theorem bf225_50 : am_fetch (am_mth 225) 50 = some (.new 79, 3, [2, 2, 545, 62, 659, 353, 83], [0, 1, 2]) := by decide +kernel
theorem bf225_53 : am_fetch (am_mth 225) 53 = some (.dup, 1, [], [0, 1, 2]) := by decide +kernel
theorem bf225_54 : am_fetch (am_mth 225) 54 = some (.ldc_w 353, 3, [1, 23, 659], [0, 1, 2]) := by decide +kernel
theorem bf225_57 : am_fetch (am_mth 225) 57 = some (.invokespecial 83, 3, [], [0, 1, 2]) := by decide +kernel
theorem bf225_60 : am_fetch (am_mth 225) 60 = some (.athrow, 1, [], [0, 1, 2]) := by decide +kernel
theorem bf225_61 : am_fetch (am_mth 225) 61 = some (.return_, 1, [], [0, 1, 2]) := by decide +kernel
theorem bk225_0 {w : am_Wd} {l0 : Nat} {l1 : Nat} {l2 : Int32} : am_run 225 0 [some (.ref l0), some (.ref l1), some (.int l2)] [] w = (am_gf w l1 6 4).bind fun v => am_run 225 4 [some (.ref l0), some (.ref l1), some (.int l2)] (v :: []) w := by
  refine (bu (ls'' := [some (.ref l0), some (.ref l1), some (.int l2)]) (st' := [.ref l1]) bf225_0 bf225_1 rfl rfl).trans ?_
  exact bh bf225_1 bf225_4 rfl (fun _ _ => am_ge_rf w) rfl
theorem bk225_4 {w : am_Wd} {l0 : Nat} {l1 : Nat} {l2 : Int32} {s0 : Int32} : am_run 225 4 [some (.ref l0), some (.ref l1), some (.int l2)] [.int s0] w = if nI 0 < s0 then am_run 225 18 [some (.ref l0), some (.ref l1), some (.int l2)] [] w else am_run 225 7 [none, none, none] [] w := by
  exact bifc bf225_4 rfl bf225_18 bf225_7 rfl rfl rfl
theorem bk225_18 {w : am_Wd} {l0 : Nat} {l1 : Nat} {l2 : Int32} : am_run 225 18 [some (.ref l0), some (.ref l1), some (.int l2)] [] w = if ¬ l2 = nI 0 then am_run 225 40 [some (.ref l0), none, none] [] w else am_run 225 22 [some (.ref l0), some (.ref l1), none] [] w := by
  refine (bu (ls'' := [some (.ref l0), some (.ref l1), none]) (st' := [.int l2]) bf225_18 bf225_19 rfl rfl).trans ?_
  exact bifc bf225_19 rfl bf225_40 bf225_22 rfl rfl rfl
theorem bk225_7 {w : am_Wd}  : am_run 225 7 [none, none, none] [] w = some (.inr (am_xn 2), am_jk w 1 6) := by
  exact am_e2 bf225_7 rfl (am_ge_jk _ _ _)
theorem bk225_40 {w : am_Wd} {l0 : Nat} : am_run 225 40 [some (.ref l0), none, none] [] w = (am_gf w l0 8 3).bind fun v => am_run 225 44 [none, none, none] (v :: []) w := by
  refine (bu (ls'' := [none, none, none]) (st' := [.ref l0]) bf225_40 bf225_41 rfl rfl).trans ?_
  exact bh bf225_41 bf225_44 rfl (fun _ _ => am_ge_rf w) rfl
theorem bk225_22 {w : am_Wd} {l0 : Nat} {l1 : Nat} : am_run 225 22 [some (.ref l0), some (.ref l1), none] [] w = (am_kf w l1 6).bind fun _ => (am_x 199 [.ref l1] w).bind fun r => bct r fun v w' => am_run 225 26 [some (.ref l0), none, none] (v.toList ++ []) w' := by
  refine (bu (ls'' := [some (.ref l0), none, none]) (st' := [.ref l1]) bf225_22 bf225_23 rfl rfl).trans ?_
  exact bkV bf225_23 bf225_26 rfl (by decide +kernel) (Nat.le_of_ble_eq_true rfl) rfl (bhd rfl)
theorem bk225_44 {w : am_Wd} {s0 : Int32} : am_run 225 44 [none, none, none] [.int s0] w = if s0 < (nI 3000) then am_run 225 61 [none, none, none] [] w else am_run 225 50 [none, none, none] [] w := by
  refine (bu (ls'' := [none, none, none]) (st' := [.int (nI 3000), .int s0]) bf225_44 bf225_47 rfl rfl).trans ?_
  exact bic bf225_47 rfl bf225_61 bf225_50 rfl rfl rfl
theorem bk225_26 {w : am_Wd} {l0 : Nat} {s0 : Int32} : am_run 225 26 [some (.ref l0), none, none] [.int s0] w = if ¬ s0 = nI 0 then am_run 225 40 [some (.ref l0), none, none] [] w else am_run 225 29 [none, none, none] [] w := by
  exact bifc bf225_26 rfl bf225_40 bf225_29 rfl rfl rfl
theorem bk225_61 {w : am_Wd}  : am_run 225 61 [none, none, none] [] w = some (.inl none, w) := by
  exact am_e2 bf225_61 rfl (am_ge_rf w)
theorem bk225_50 {w : am_Wd}  : am_run 225 50 [none, none, none] [] w = some (.inr (am_xn 2), am_jk w 1 6) := by
  exact am_e2 bf225_50 rfl (am_ge_jk _ _ _)
theorem bk225_29 {w : am_Wd}  : am_run 225 29 [none, none, none] [] w = some (.inr (am_xn 2), am_jk w 1 6) := by
  exact am_e2 bf225_29 rfl (am_ge_jk _ _ _)
theorem bf226_0 : am_fetch (am_mth 226) 0 = some (.aload_n 1, 1, [], []) := by decide +kernel
theorem bf226_1 : am_fetch (am_mth 226) 1 = some (.invokevirtual 122, 3, [0, 95, 0, 10, 1403, 1404, 1405, 66], []) := by decide +kernel
theorem bf226_4 : am_fetch (am_mth 226) 4 = some (.iconst (-1), 1, [], []) := by decide +kernel
theorem bf226_5 : am_fetch (am_mth 226) 5 = some (.if_icmp .ne 8, 3, [], []) := by decide +kernel
theorem bf226_8 : am_fetch (am_mth 226) 8 = some (.bipush (-2), 2, [], [0, 1]) := by decide +kernel
theorem bf226_10 : am_fetch (am_mth 226) 10 = some (.goto 19, 3, [], [0, 1]) := by decide +kernel
theorem bf226_13 : am_fetch (am_mth 226) 13 = some (.aload_n 0, 1, [], []) := by decide +kernel
theorem bf226_14 : am_fetch (am_mth 226) 14 = some (.aload_n 1, 1, [], [0]) := by decide +kernel
theorem bf226_15 : am_fetch (am_mth 226) 15 = some (.aload_n 1, 1, [], [0]) := by decide +kernel
theorem bf226_16 : am_fetch (am_mth 226) 16 = some (.invokevirtual 122, 3, [0, 95, 0, 10, 1403, 1404, 1405, 66], [0]) := by decide +kernel
theorem bf226_19 : am_fetch (am_mth 226) 19 = some (.iconst 4, 1, [], [0]) := by decide +kernel
theorem bf226_20 : am_fetch (am_mth 226) 20 = some (.idiv, 1, [], [0]) := by decide +kernel
theorem bf226_21 : am_fetch (am_mth 226) 21 = some (.invokevirtual 125, 3, [0, 208, 2, 11, 1427, 1429, 29, 48], [0]) := by decide +kernel
theorem bf226_24 : am_fetch (am_mth 226) 24 = some (.aload_n 1, 1, [], [0]) := by decide +kernel
theorem bf226_25 : am_fetch (am_mth 226) 25 = some (.getfield 104, 3, [0, 10, 1, 1304], [0, 1]) := by decide +kernel
theorem bf226_28 : am_fetch (am_mth 226) 28 = some (.iaload, 1, [], [0, 1]) := by decide +kernel
theorem bf226_29 : am_fetch (am_mth 226) 29 = some (.ireturn, 1, [0], [0, 1]) := by decide +kernel
theorem bk226_0 {w : am_Wd} {l0 : Nat} {l1 : Nat} : am_run 226 0 [some (.ref l0), some (.ref l1)] [] w = (am_kf w l1 10).bind fun _ => (am_x 95 [.ref l1] w).bind fun r => bct r fun v w' => am_run 226 4 [some (.ref l0), some (.ref l1)] (v.toList ++ []) w' := by
  refine (bu (ls'' := [some (.ref l0), some (.ref l1)]) (st' := [.ref l1]) bf226_0 bf226_1 rfl rfl).trans ?_
  exact bkV bf226_1 bf226_4 rfl (by decide +kernel) (Nat.le_of_ble_eq_true rfl) rfl (bhd rfl)
theorem bk226_4 {w : am_Wd} {l0 : Nat} {l1 : Nat} {s0 : Int32} : am_run 226 4 [some (.ref l0), some (.ref l1)] [.int s0] w = if ¬ s0 = (-1 : Int32) then am_run 226 13 [some (.ref l0), some (.ref l1)] [] w else am_run 226 8 [none, none] [] w := by
  refine (bu (ls'' := [some (.ref l0), some (.ref l1)]) (st' := [.int (-1 : Int32), .int s0]) bf226_4 bf226_5 rfl rfl).trans ?_
  exact bic bf226_5 rfl bf226_13 bf226_8 rfl rfl rfl
theorem bk226_13 {w : am_Wd} {l0 : Nat} {l1 : Nat} : am_run 226 13 [some (.ref l0), some (.ref l1)] [] w = (am_kf w l1 10).bind fun _ => (am_x 95 [.ref l1] w).bind fun r => bct r fun v w' => am_run 226 19 [none, some (.ref l1)] (v.toList ++ [.ref l1, .ref l0]) w' := by
  refine (bu (ls'' := [none, some (.ref l1)]) (st' := [.ref l0]) bf226_13 bf226_14 rfl rfl).trans ?_
  refine (bu (ls'' := [none, some (.ref l1)]) (st' := [.ref l1, .ref l0]) bf226_14 bf226_15 rfl rfl).trans ?_
  refine (bu (ls'' := [none, some (.ref l1)]) (st' := [.ref l1, .ref l1, .ref l0]) bf226_15 bf226_16 rfl rfl).trans ?_
  exact bkV bf226_16 bf226_19 rfl (by decide +kernel) (Nat.le_of_ble_eq_true rfl) rfl (bhd rfl)
theorem bk226_8 {w : am_Wd}  : am_run 226 8 [none, none] [] w = am_run 226 29 [none, none] [.int (-2 : Int32)] w := by
  refine (bu (ls'' := [none, none]) (st' := [.int (-2 : Int32)]) bf226_8 bf226_10 rfl rfl).trans ?_
  refine (bu (ls'' := [none, none]) (st' := [.int (-2 : Int32)]) bf226_10 bf226_29 rfl rfl).trans ?_
  rfl
theorem bk226_19 {w : am_Wd} {l1 : Nat} {s0 : Int32} {s1 : Nat} {s2 : Nat} : am_run 226 19 [none, some (.ref l1)] [.int s0, .ref s1, .ref s2] w = (am_kf w s2 11).bind fun _ => (am_x 208 [.ref s2, .ref s1, .int (s0 / (nI 4))] w).bind fun r => bct r fun v w' => am_run 226 24 [none, some (.ref l1)] (v.toList ++ []) w' := by
  refine (bu (ls'' := [none, some (.ref l1)]) (st' := [.int (nI 4), .int s0, .ref s1, .ref s2]) bf226_19 bf226_20 rfl rfl).trans ?_
  refine (bu (ls'' := [none, some (.ref l1)]) (st' := [.int (s0 / (nI 4)), .ref s1, .ref s2]) bf226_20 bf226_21 rfl rfl).trans ?_
  exact bkV bf226_21 bf226_24 rfl (by decide +kernel) (Nat.le_of_ble_eq_true rfl) rfl (bhd rfl)
theorem bk226_29 {w : am_Wd} {s0 : Int32} : am_run 226 29 [none, none] [.int s0] w = some (.inl (some (.int s0)), w) := by
  exact am_e2 bf226_29 rfl (am_ge_rf w)
theorem bk226_24 {w : am_Wd} {l1 : Nat} {s0 : Nat} : am_run 226 24 [none, some (.ref l1)] [.ref s0] w = (am_gf w l1 10 1).bind fun v => am_run 226 28 [none, none] (v :: [.ref s0]) w := by
  refine (bu (ls'' := [none, none]) (st' := [.ref l1, .ref s0]) bf226_24 bf226_25 rfl rfl).trans ?_
  exact bh bf226_25 bf226_28 rfl (fun _ _ => am_ge_rf w) rfl
theorem bk226_28 {w : am_Wd} {s0 : Int32} {s1 : Nat} : am_run 226 28 [none, none] [.int s0, .ref s1] w = (am_ri 0 w s1 s0).bind fun v => am_run 226 29 [none, none] (.int v :: []) w := by
  exact bh bf226_28 bf226_29 rfl (fun _ _ => am_ge_rf w) rfl
theorem bf227_0 : am_fetch (am_mth 227) 0 = some (.aload_n 0, 1, [], []) := by decide +kernel
theorem bf227_1 : am_fetch (am_mth 227) 1 = some (.iload_n 1, 1, [], []) := by decide +kernel
theorem bf227_2 : am_fetch (am_mth 227) 2 = some (.iconst 0, 1, [], []) := by decide +kernel
theorem bf227_3 : am_fetch (am_mth 227) 3 = some (.bipush 11, 2, [], []) := by decide +kernel
theorem bf227_5 : am_fetch (am_mth 227) 5 = some (.invokestatic 42, 3, [0, 39, 3, 1245, 1246, 48], []) := by decide +kernel
theorem bf227_8 : am_fetch (am_mth 227) 8 = some (.ifCond .ne 7, 3, [], []) := by decide +kernel
theorem bf227_11 : am_fetch (am_mth 227) 11 = some (.iconst 1, 1, [], []) := by decide +kernel
theorem bf227_12 : am_fetch (am_mth 227) 12 = some (.goto 4, 3, [], []) := by decide +kernel
theorem bf227_15 : am_fetch (am_mth 227) 15 = some (.iconst 0, 1, [], []) := by decide +kernel
theorem bf227_16 : am_fetch (am_mth 227) 16 = some (.iconst 1, 1, [], []) := by decide +kernel
theorem bf227_17 : am_fetch (am_mth 227) 17 = some (.invokevirtual 83, 3, [0, 96, 2, 11, 1251, 1253, 18, 48], []) := by decide +kernel
theorem bf227_20 : am_fetch (am_mth 227) 20 = some (.ifCond .eq 7, 3, [], []) := by decide +kernel
theorem bf227_23 : am_fetch (am_mth 227) 23 = some (.iconst 0, 1, [], [0, 1]) := by decide +kernel
theorem bf227_24 : am_fetch (am_mth 227) 24 = some (.goto 8, 3, [], [0, 1]) := by decide +kernel
theorem bf227_27 : am_fetch (am_mth 227) 27 = some (.aload_n 0, 1, [], []) := by decide +kernel
theorem bf227_28 : am_fetch (am_mth 227) 28 = some (.iload_n 1, 1, [], [0]) := by decide +kernel
theorem bf227_29 : am_fetch (am_mth 227) 29 = some (.invokevirtual 236, 3, [0, 213, 1, 11, 1573, 1575, 37, 48], [0, 1]) := by decide +kernel
theorem bf227_32 : am_fetch (am_mth 227) 32 = some (.ireturn, 1, [0], [0, 1]) := by decide +kernel
theorem bk227_0 {w : am_Wd} {l0 : Nat} {l1 : Int32} : am_run 227 0 [some (.ref l0), some (.int l1)] [] w = (am_x 39 [.int l1, .int (nI 0), .int (nI 11)] w).bind fun r => bct r fun v w' => am_run 227 8 [some (.ref l0), some (.int l1)] (v.toList ++ [.ref l0]) w' := by
  refine (bu (ls'' := [some (.ref l0), some (.int l1)]) (st' := [.ref l0]) bf227_0 bf227_1 rfl rfl).trans ?_
  refine (bu (ls'' := [some (.ref l0), some (.int l1)]) (st' := [.int l1, .ref l0]) bf227_1 bf227_2 rfl rfl).trans ?_
  refine (bu (ls'' := [some (.ref l0), some (.int l1)]) (st' := [.int (nI 0), .int l1, .ref l0]) bf227_2 bf227_3 rfl rfl).trans ?_
  refine (bu (ls'' := [some (.ref l0), some (.int l1)]) (st' := [.int (nI 11), .int (nI 0), .int l1, .ref l0]) bf227_3 bf227_5 rfl rfl).trans ?_
  exact bkS bf227_5 bf227_8 rfl (by decide +kernel) (Nat.le_of_ble_eq_true rfl) rfl (bhd rfl)
theorem bk227_8 {w : am_Wd} {l0 : Nat} {l1 : Int32} {s0 : Int32} {s1 : Nat} : am_run 227 8 [some (.ref l0), some (.int l1)] [.int s0, .ref s1] w = if ¬ s0 = nI 0 then am_run 227 15 [some (.ref l0), some (.int l1)] [.ref s1] w else am_run 227 11 [some (.ref l0), some (.int l1)] [.ref s1] w := by
  exact bifc bf227_8 rfl bf227_15 bf227_11 rfl rfl rfl
theorem bk227_15 {w : am_Wd} {l0 : Nat} {l1 : Int32} {s0 : Nat} : am_run 227 15 [some (.ref l0), some (.int l1)] [.ref s0] w = am_run 227 16 [some (.ref l0), some (.int l1)] [.int (nI 0), .ref s0] w := by
  refine (bu (ls'' := [some (.ref l0), some (.int l1)]) (st' := [.int (nI 0), .ref s0]) bf227_15 bf227_16 rfl rfl).trans ?_
  rfl
theorem bk227_11 {w : am_Wd} {l0 : Nat} {l1 : Int32} {s0 : Nat} : am_run 227 11 [some (.ref l0), some (.int l1)] [.ref s0] w = am_run 227 16 [some (.ref l0), some (.int l1)] [.int (nI 1), .ref s0] w := by
  refine (bu (ls'' := [some (.ref l0), some (.int l1)]) (st' := [.int (nI 1), .ref s0]) bf227_11 bf227_12 rfl rfl).trans ?_
  refine (bu (ls'' := [some (.ref l0), some (.int l1)]) (st' := [.int (nI 1), .ref s0]) bf227_12 bf227_16 rfl rfl).trans ?_
  rfl
theorem bk227_16 {w : am_Wd} {l0 : Nat} {l1 : Int32} {s0 : Int32} {s1 : Nat} : am_run 227 16 [some (.ref l0), some (.int l1)] [.int s0, .ref s1] w = (am_kf w s1 11).bind fun _ => (am_x 96 [.ref s1, .int s0, .int (nI 1)] w).bind fun r => bct r fun v w' => am_run 227 20 [some (.ref l0), some (.int l1)] (v.toList ++ []) w' := by
  refine (bu (ls'' := [some (.ref l0), some (.int l1)]) (st' := [.int (nI 1), .int s0, .ref s1]) bf227_16 bf227_17 rfl rfl).trans ?_
  exact bkV bf227_17 bf227_20 rfl (by decide +kernel) (Nat.le_of_ble_eq_true rfl) rfl (bhd rfl)
theorem bk227_20 {w : am_Wd} {l0 : Nat} {l1 : Int32} {s0 : Int32} : am_run 227 20 [some (.ref l0), some (.int l1)] [.int s0] w = if s0 = nI 0 then am_run 227 27 [some (.ref l0), some (.int l1)] [] w else am_run 227 23 [none, none] [] w := by
  exact bifc bf227_20 rfl bf227_27 bf227_23 rfl rfl rfl
theorem bk227_27 {w : am_Wd} {l0 : Nat} {l1 : Int32} : am_run 227 27 [some (.ref l0), some (.int l1)] [] w = (am_kf w l0 11).bind fun _ => (am_x 213 [.ref l0, .int l1] w).bind fun r => bct r fun v w' => am_run 227 32 [none, none] (v.toList ++ []) w' := by
  refine (bu (ls'' := [none, some (.int l1)]) (st' := [.ref l0]) bf227_27 bf227_28 rfl rfl).trans ?_
  refine (bu (ls'' := [none, none]) (st' := [.int l1, .ref l0]) bf227_28 bf227_29 rfl rfl).trans ?_
  exact bkV bf227_29 bf227_32 rfl (by decide +kernel) (Nat.le_of_ble_eq_true rfl) rfl (bhd rfl)
theorem bk227_23 {w : am_Wd}  : am_run 227 23 [none, none] [] w = am_run 227 32 [none, none] [.int (nI 0)] w := by
  refine (bu (ls'' := [none, none]) (st' := [.int (nI 0)]) bf227_23 bf227_24 rfl rfl).trans ?_
  refine (bu (ls'' := [none, none]) (st' := [.int (nI 0)]) bf227_24 bf227_32 rfl rfl).trans ?_
  rfl
theorem bk227_32 {w : am_Wd} {s0 : Int32} : am_run 227 32 [none, none] [.int s0] w = some (.inl (some (.int s0)), w) := by
  exact am_e2 bf227_32 rfl (am_ge_rf w)
theorem bf228_0 : am_fetch (am_mth 228) 0 = some (.aload_n 0, 1, [], []) := by decide +kernel
theorem bf228_1 : am_fetch (am_mth 228) 1 = some (.aload_n 0, 1, [], []) := by decide +kernel
theorem bf228_2 : am_fetch (am_mth 228) 2 = some (.iload_n 1, 1, [], []) := by decide +kernel
theorem bf228_3 : am_fetch (am_mth 228) 3 = some (.invokevirtual 149, 3, [0, 99, 1, 11, 1387, 1389, 24, 48], []) := by decide +kernel
theorem bf228_6 : am_fetch (am_mth 228) 6 = some (.ifCond .ne 17, 3, [], []) := by decide +kernel
theorem bf228_9 : am_fetch (am_mth 228) 9 = some (.iload_n 2, 1, [], []) := by decide +kernel
theorem bf228_10 : am_fetch (am_mth 228) 10 = some (.invokestatic 76, 3, [0, 97, 1, 1242, 1243, 48], []) := by decide +kernel
theorem bf228_13 : am_fetch (am_mth 228) 13 = some (.ifCond .ne 10, 3, [], []) := by decide +kernel
theorem bf228_16 : am_fetch (am_mth 228) 16 = some (.iload_n 3, 1, [], []) := by decide +kernel
theorem bf228_17 : am_fetch (am_mth 228) 17 = some (.invokestatic 76, 3, [0, 97, 1, 1242, 1243, 48], []) := by decide +kernel
theorem bf228_20 : am_fetch (am_mth 228) 20 = some (.ifCond .eq 7, 3, [], []) := by decide +kernel
theorem bf228_23 : am_fetch (am_mth 228) 23 = some (.iconst 1, 1, [], []) := by decide +kernel
theorem bf228_24 : am_fetch (am_mth 228) 24 = some (.goto 4, 3, [], []) := by decide +kernel
theorem bf228_27 : am_fetch (am_mth 228) 27 = some (.iconst 0, 1, [], []) := by decide +kernel
theorem bf228_28 : am_fetch (am_mth 228) 28 = some (.iconst 1, 1, [], []) := by decide +kernel
theorem bf228_29 : am_fetch (am_mth 228) 29 = some (.invokevirtual 83, 3, [0, 96, 2, 11, 1251, 1253, 18, 48], []) := by decide +kernel
theorem bf228_32 : am_fetch (am_mth 228) 32 = some (.ifCond .eq 7, 3, [], []) := by decide +kernel
theorem bf228_35 : am_fetch (am_mth 228) 35 = some (.iconst 0, 1, [], [0, 1, 2, 3]) := by decide +kernel
theorem bf228_36 : am_fetch (am_mth 228) 36 = some (.goto 21, 3, [], [0, 1, 2, 3]) := by decide +kernel
theorem bf228_39 : am_fetch (am_mth 228) 39 = some (.aload_n 0, 1, [], []) := by decide +kernel
theorem bf228_40 : am_fetch (am_mth 228) 40 = some (.aload_n 0, 1, [], []) := by decide +kernel
theorem bf228_41 : am_fetch (am_mth 228) 41 = some (.getfield 31, 3, [0, 11, 11, 1208], [0]) := by decide +kernel
theorem bf228_44 : am_fetch (am_mth 228) 44 = some (.iload_n 1, 1, [], [0]) := by decide +kernel
theorem bf228_45 : am_fetch (am_mth 228) 45 = some (.invokevirtual 152, 3, [0, 150, 1, 3, 1391, 1392, 1393, 51], [0, 1]) := by decide +kernel
theorem bf228_48 : am_fetch (am_mth 228) 48 = some (.checkcast 72, 3, [0, 10, 1295], [0, 1]) := by decide +kernel
theorem bf228_51 : am_fetch (am_mth 228) 51 = some (.iload_n 2, 1, [], [0, 1]) := by decide +kernel
theorem bf228_52 : am_fetch (am_mth 228) 52 = some (.invokevirtual 125, 3, [0, 208, 2, 11, 1427, 1429, 29, 48], [0, 1, 2]) := by decide +kernel
theorem bf228_55 : am_fetch (am_mth 228) 55 = some (.iload_n 3, 1, [], [0, 1, 2]) := by decide +kernel
theorem bf228_56 : am_fetch (am_mth 228) 56 = some (.iaload, 1, [], [0, 1, 2, 3]) := by decide +kernel
theorem bf228_57 : am_fetch (am_mth 228) 57 = some (.ireturn, 1, [0], [0, 1, 2, 3]) := by decide +kernel
theorem bk228_0 {w : am_Wd} {l0 : Nat} {l1 : Int32} {l2 : Int32} {l3 : Int32} : am_run 228 0 [some (.ref l0), some (.int l1), some (.int l2), some (.int l3)] [] w = (am_kf w l0 11).bind fun _ => (am_x 99 [.ref l0, .int l1] w).bind fun r => bct r fun v w' => am_run 228 6 [some (.ref l0), some (.int l1), some (.int l2), some (.int l3)] (v.toList ++ [.ref l0]) w' := by
  refine (bu (ls'' := [some (.ref l0), some (.int l1), some (.int l2), some (.int l3)]) (st' := [.ref l0]) bf228_0 bf228_1 rfl rfl).trans ?_
  refine (bu (ls'' := [some (.ref l0), some (.int l1), some (.int l2), some (.int l3)]) (st' := [.ref l0, .ref l0]) bf228_1 bf228_2 rfl rfl).trans ?_
  refine (bu (ls'' := [some (.ref l0), some (.int l1), some (.int l2), some (.int l3)]) (st' := [.int l1, .ref l0, .ref l0]) bf228_2 bf228_3 rfl rfl).trans ?_
  exact bkV bf228_3 bf228_6 rfl (by decide +kernel) (Nat.le_of_ble_eq_true rfl) rfl (bhd rfl)
theorem bk228_6 {w : am_Wd} {l0 : Nat} {l1 : Int32} {l2 : Int32} {l3 : Int32} {s0 : Int32} {s1 : Nat} : am_run 228 6 [some (.ref l0), some (.int l1), some (.int l2), some (.int l3)] [.int s0, .ref s1] w = if ¬ s0 = nI 0 then am_run 228 23 [some (.ref l0), some (.int l1), some (.int l2), some (.int l3)] [.ref s1] w else am_run 228 9 [some (.ref l0), some (.int l1), some (.int l2), some (.int l3)] [.ref s1] w := by
  exact bifc bf228_6 rfl bf228_23 bf228_9 rfl rfl rfl
theorem bk228_23 {w : am_Wd} {l0 : Nat} {l1 : Int32} {l2 : Int32} {l3 : Int32} {s0 : Nat} : am_run 228 23 [some (.ref l0), some (.int l1), some (.int l2), some (.int l3)] [.ref s0] w = am_run 228 28 [some (.ref l0), some (.int l1), some (.int l2), some (.int l3)] [.int (nI 1), .ref s0] w := by
  refine (bu (ls'' := [some (.ref l0), some (.int l1), some (.int l2), some (.int l3)]) (st' := [.int (nI 1), .ref s0]) bf228_23 bf228_24 rfl rfl).trans ?_
  refine (bu (ls'' := [some (.ref l0), some (.int l1), some (.int l2), some (.int l3)]) (st' := [.int (nI 1), .ref s0]) bf228_24 bf228_28 rfl rfl).trans ?_
  rfl
theorem bk228_9 {w : am_Wd} {l0 : Nat} {l1 : Int32} {l2 : Int32} {l3 : Int32} {s0 : Nat} : am_run 228 9 [some (.ref l0), some (.int l1), some (.int l2), some (.int l3)] [.ref s0] w = (am_x 97 [.int l2] w).bind fun r => bct r fun v w' => am_run 228 13 [some (.ref l0), some (.int l1), some (.int l2), some (.int l3)] (v.toList ++ [.ref s0]) w' := by
  refine (bu (ls'' := [some (.ref l0), some (.int l1), some (.int l2), some (.int l3)]) (st' := [.int l2, .ref s0]) bf228_9 bf228_10 rfl rfl).trans ?_
  exact bkS bf228_10 bf228_13 rfl (by decide +kernel) (Nat.le_of_ble_eq_true rfl) rfl (bhd rfl)
theorem bk228_28 {w : am_Wd} {l0 : Nat} {l1 : Int32} {l2 : Int32} {l3 : Int32} {s0 : Int32} {s1 : Nat} : am_run 228 28 [some (.ref l0), some (.int l1), some (.int l2), some (.int l3)] [.int s0, .ref s1] w = (am_kf w s1 11).bind fun _ => (am_x 96 [.ref s1, .int s0, .int (nI 1)] w).bind fun r => bct r fun v w' => am_run 228 32 [some (.ref l0), some (.int l1), some (.int l2), some (.int l3)] (v.toList ++ []) w' := by
  refine (bu (ls'' := [some (.ref l0), some (.int l1), some (.int l2), some (.int l3)]) (st' := [.int (nI 1), .int s0, .ref s1]) bf228_28 bf228_29 rfl rfl).trans ?_
  exact bkV bf228_29 bf228_32 rfl (by decide +kernel) (Nat.le_of_ble_eq_true rfl) rfl (bhd rfl)
theorem bk228_13 {w : am_Wd} {l0 : Nat} {l1 : Int32} {l2 : Int32} {l3 : Int32} {s0 : Int32} {s1 : Nat} : am_run 228 13 [some (.ref l0), some (.int l1), some (.int l2), some (.int l3)] [.int s0, .ref s1] w = if ¬ s0 = nI 0 then am_run 228 23 [some (.ref l0), some (.int l1), some (.int l2), some (.int l3)] [.ref s1] w else am_run 228 16 [some (.ref l0), some (.int l1), some (.int l2), some (.int l3)] [.ref s1] w := by
  exact bifc bf228_13 rfl bf228_23 bf228_16 rfl rfl rfl
theorem bk228_32 {w : am_Wd} {l0 : Nat} {l1 : Int32} {l2 : Int32} {l3 : Int32} {s0 : Int32} : am_run 228 32 [some (.ref l0), some (.int l1), some (.int l2), some (.int l3)] [.int s0] w = if s0 = nI 0 then am_run 228 39 [some (.ref l0), some (.int l1), some (.int l2), some (.int l3)] [] w else am_run 228 35 [none, none, none, none] [] w := by
  exact bifc bf228_32 rfl bf228_39 bf228_35 rfl rfl rfl
theorem bk228_16 {w : am_Wd} {l0 : Nat} {l1 : Int32} {l2 : Int32} {l3 : Int32} {s0 : Nat} : am_run 228 16 [some (.ref l0), some (.int l1), some (.int l2), some (.int l3)] [.ref s0] w = (am_x 97 [.int l3] w).bind fun r => bct r fun v w' => am_run 228 20 [some (.ref l0), some (.int l1), some (.int l2), some (.int l3)] (v.toList ++ [.ref s0]) w' := by
  refine (bu (ls'' := [some (.ref l0), some (.int l1), some (.int l2), some (.int l3)]) (st' := [.int l3, .ref s0]) bf228_16 bf228_17 rfl rfl).trans ?_
  exact bkS bf228_17 bf228_20 rfl (by decide +kernel) (Nat.le_of_ble_eq_true rfl) rfl (bhd rfl)
theorem bk228_39 {w : am_Wd} {l0 : Nat} {l1 : Int32} {l2 : Int32} {l3 : Int32} : am_run 228 39 [some (.ref l0), some (.int l1), some (.int l2), some (.int l3)] [] w = (am_gf w l0 11 11).bind fun v => am_run 228 44 [none, some (.int l1), some (.int l2), some (.int l3)] (v :: [.ref l0]) w := by
  refine (bu (ls'' := [some (.ref l0), some (.int l1), some (.int l2), some (.int l3)]) (st' := [.ref l0]) bf228_39 bf228_40 rfl rfl).trans ?_
  refine (bu (ls'' := [none, some (.int l1), some (.int l2), some (.int l3)]) (st' := [.ref l0, .ref l0]) bf228_40 bf228_41 rfl rfl).trans ?_
  exact bh bf228_41 bf228_44 rfl (fun _ _ => am_ge_rf w) rfl
theorem bk228_35 {w : am_Wd}  : am_run 228 35 [none, none, none, none] [] w = am_run 228 57 [none, none, none, none] [.int (nI 0)] w := by
  refine (bu (ls'' := [none, none, none, none]) (st' := [.int (nI 0)]) bf228_35 bf228_36 rfl rfl).trans ?_
  refine (bu (ls'' := [none, none, none, none]) (st' := [.int (nI 0)]) bf228_36 bf228_57 rfl rfl).trans ?_
  rfl
theorem bk228_20 {w : am_Wd} {l0 : Nat} {l1 : Int32} {l2 : Int32} {l3 : Int32} {s0 : Int32} {s1 : Nat} : am_run 228 20 [some (.ref l0), some (.int l1), some (.int l2), some (.int l3)] [.int s0, .ref s1] w = if s0 = nI 0 then am_run 228 27 [some (.ref l0), some (.int l1), some (.int l2), some (.int l3)] [.ref s1] w else am_run 228 23 [some (.ref l0), some (.int l1), some (.int l2), some (.int l3)] [.ref s1] w := by
  exact bifc bf228_20 rfl bf228_27 bf228_23 rfl rfl rfl
theorem bk228_44 {w : am_Wd} {l1 : Int32} {l2 : Int32} {l3 : Int32} {s0 : Nat} {s1 : Nat} : am_run 228 44 [none, some (.int l1), some (.int l2), some (.int l3)] [.ref s0, .ref s1] w = (am_kf w s0 3).bind fun _ => (am_x 150 [.ref s0, .int l1] w).bind fun r => bct r fun v w' => am_run 228 48 [none, none, some (.int l2), some (.int l3)] (v.toList ++ [.ref s1]) w' := by
  refine (bu (ls'' := [none, none, some (.int l2), some (.int l3)]) (st' := [.int l1, .ref s0, .ref s1]) bf228_44 bf228_45 rfl rfl).trans ?_
  exact bkV bf228_45 bf228_48 rfl (by decide +kernel) (Nat.le_of_ble_eq_true rfl) rfl (bhd rfl)
theorem bk228_57 {w : am_Wd} {s0 : Int32} : am_run 228 57 [none, none, none, none] [.int s0] w = some (.inl (some (.int s0)), w) := by
  exact am_e2 bf228_57 rfl (am_ge_rf w)
theorem bk228_27 {w : am_Wd} {l0 : Nat} {l1 : Int32} {l2 : Int32} {l3 : Int32} {s0 : Nat} : am_run 228 27 [some (.ref l0), some (.int l1), some (.int l2), some (.int l3)] [.ref s0] w = am_run 228 28 [some (.ref l0), some (.int l1), some (.int l2), some (.int l3)] [.int (nI 0), .ref s0] w := by
  refine (bu (ls'' := [some (.ref l0), some (.int l1), some (.int l2), some (.int l3)]) (st' := [.int (nI 0), .ref s0]) bf228_27 bf228_28 rfl rfl).trans ?_
  rfl
theorem bk228_48 {w : am_Wd} {l2 : Int32} {l3 : Int32} {s0 : Nat} {s1 : Nat} : am_run 228 48 [none, none, some (.int l2), some (.int l3)] [.ref s0, .ref s1] w = (am_kf w s0 10).bind fun _ => am_run 228 51 [none, none, some (.int l2), some (.int l3)] [.ref s0, .ref s1] w := by
  exact bh bf228_48 bf228_51 rfl (fun _ _ => am_ge_rf w) rfl
theorem bk228_51 {w : am_Wd} {l2 : Int32} {l3 : Int32} {s0 : Nat} {s1 : Nat} : am_run 228 51 [none, none, some (.int l2), some (.int l3)] [.ref s0, .ref s1] w = (am_kf w s1 11).bind fun _ => (am_x 208 [.ref s1, .ref s0, .int l2] w).bind fun r => bct r fun v w' => am_run 228 55 [none, none, none, some (.int l3)] (v.toList ++ []) w' := by
  refine (bu (ls'' := [none, none, none, some (.int l3)]) (st' := [.int l2, .ref s0, .ref s1]) bf228_51 bf228_52 rfl rfl).trans ?_
  exact bkV bf228_52 bf228_55 rfl (by decide +kernel) (Nat.le_of_ble_eq_true rfl) rfl (bhd rfl)
theorem bk228_55 {w : am_Wd} {l3 : Int32} {s0 : Nat} : am_run 228 55 [none, none, none, some (.int l3)] [.ref s0] w = (am_ri 0 w s0 l3).bind fun v => am_run 228 57 [none, none, none, none] (.int v :: []) w := by
  refine (bu (ls'' := [none, none, none, none]) (st' := [.int l3, .ref s0]) bf228_55 bf228_56 rfl rfl).trans ?_
  exact bh bf228_56 bf228_57 rfl (fun _ _ => am_ge_rf w) rfl
theorem bf229_0 : am_fetch (am_mth 229) 0 = some (.aload_n 1, 1, [], [2, 3, 4, 5, 6]) := by decide +kernel
theorem bf229_1 : am_fetch (am_mth 229) 1 = some (.invokevirtual 122, 3, [0, 95, 0, 10, 1403, 1404, 1405, 66], [2, 3, 4, 5, 6]) := by decide +kernel
theorem bf229_4 : am_fetch (am_mth 229) 4 = some (.iconst (-1), 1, [], [2, 3, 4, 5, 6]) := by decide +kernel
theorem bf229_5 : am_fetch (am_mth 229) 5 = some (.if_icmp .ne 6, 3, [], [2, 3, 4, 5, 6]) := by decide +kernel
theorem bf229_8 : am_fetch (am_mth 229) 8 = some (.bipush (-2), 2, [], [0, 1, 2, 3, 4, 5, 6]) := by decide +kernel
theorem bf229_10 : am_fetch (am_mth 229) 10 = some (.ireturn, 1, [0], [0, 1, 2, 3, 4, 5, 6]) := by decide +kernel
theorem bf229_11 : am_fetch (am_mth 229) 11 = some (.aload_n 0, 1, [], [2, 3, 4, 5, 6]) := by decide +kernel
theorem bf229_12 : am_fetch (am_mth 229) 12 = some (.aload_n 1, 1, [], [0, 2, 3, 4, 5, 6]) := by decide +kernel
theorem bf229_13 : am_fetch (am_mth 229) 13 = some (.aload_n 1, 1, [], [0, 2, 3, 4, 5, 6]) := by decide +kernel
theorem bf229_14 : am_fetch (am_mth 229) 14 = some (.invokevirtual 122, 3, [0, 95, 0, 10, 1403, 1404, 1405, 66], [0, 2, 3, 4, 5, 6]) := by decide +kernel
theorem bf229_17 : am_fetch (am_mth 229) 17 = some (.iconst 4, 1, [], [0, 2, 3, 4, 5, 6]) := by decide +kernel
theorem bf229_18 : am_fetch (am_mth 229) 18 = some (.idiv, 1, [], [0, 2, 3, 4, 5, 6]) := by decide +kernel
theorem bf229_19 : am_fetch (am_mth 229) 19 = some (.invokevirtual 125, 3, [0, 208, 2, 11, 1427, 1429, 29, 48], [0, 2, 3, 4, 5, 6]) := by decide +kernel
theorem bf229_22 : am_fetch (am_mth 229) 22 = some (.astore_n 2, 1, [], [0, 2, 3, 4, 5, 6]) := by decide +kernel
theorem bf229_23 : am_fetch (am_mth 229) 23 = some (.iconst (-1), 1, [], [0, 3, 4, 5, 6]) := by decide +kernel
theorem bf229_24 : am_fetch (am_mth 229) 24 = some (.istore_n 3, 1, [], [0, 3, 4, 5, 6]) := by decide +kernel
theorem bf229_25 : am_fetch (am_mth 229) 25 = some (.iconst 0, 1, [], [0, 4, 5, 6]) := by decide +kernel
theorem bf229_26 : am_fetch (am_mth 229) 26 = some (.istore 4, 2, [], [0, 4, 5, 6]) := by decide +kernel
theorem bf229_28 : am_fetch (am_mth 229) 28 = some (.iload 4, 2, [], [0, 5, 6]) := by decide +kernel
theorem bf229_30 : am_fetch (am_mth 229) 30 = some (.bipush 36, 2, [], [0, 5, 6]) := by decide +kernel
theorem bf229_32 : am_fetch (am_mth 229) 32 = some (.if_icmp .ge 79, 3, [], [0, 5, 6]) := by decide +kernel
theorem bf229_35 : am_fetch (am_mth 229) 35 = some (.iconst 0, 1, [], [0, 5, 6]) := by decide +kernel
theorem bf229_36 : am_fetch (am_mth 229) 36 = some (.istore 5, 2, [], [0, 5, 6]) := by decide +kernel
theorem bf229_38 : am_fetch (am_mth 229) 38 = some (.iconst 0, 1, [], [0, 6]) := by decide +kernel
theorem bf229_39 : am_fetch (am_mth 229) 39 = some (.istore 6, 2, [], [0, 6]) := by decide +kernel
theorem bf229_41 : am_fetch (am_mth 229) 41 = some (.iload 6, 2, [], [0]) := by decide +kernel
theorem bf229_43 : am_fetch (am_mth 229) 43 = some (.iconst 4, 1, [], [0]) := by decide +kernel
theorem bf229_44 : am_fetch (am_mth 229) 44 = some (.if_icmp .ge 30, 3, [], [0]) := by decide +kernel
theorem bf229_47 : am_fetch (am_mth 229) 47 = some (.iload 5, 2, [], [0]) := by decide +kernel
theorem bf229_49 : am_fetch (am_mth 229) 49 = some (.aload_n 1, 1, [], [0, 5]) := by decide +kernel
theorem bf229_50 : am_fetch (am_mth 229) 50 = some (.iload 4, 2, [], [0, 5]) := by decide +kernel
theorem bf229_52 : am_fetch (am_mth 229) 52 = some (.iload 6, 2, [], [0, 5]) := by decide +kernel
theorem bf229_54 : am_fetch (am_mth 229) 54 = some (.invokestatic 118, 3, [0, 174, 3, 1431, 1432, 48], [0, 5]) := by decide +kernel
theorem bf229_57 : am_fetch (am_mth 229) 57 = some (.ifCond .ne 7, 3, [], [0, 5]) := by decide +kernel
theorem bf229_60 : am_fetch (am_mth 229) 60 = some (.iconst 1, 1, [], [0, 5]) := by decide +kernel
theorem bf229_61 : am_fetch (am_mth 229) 61 = some (.goto 4, 3, [], [0, 5]) := by decide +kernel
theorem bf229_64 : am_fetch (am_mth 229) 64 = some (.iconst 0, 1, [], [0, 5]) := by decide +kernel
theorem bf229_65 : am_fetch (am_mth 229) 65 = some (.ior, 1, [], [0, 5]) := by decide +kernel
theorem bf229_66 : am_fetch (am_mth 229) 66 = some (.istore 5, 2, [], [0, 5]) := by decide +kernel
theorem bf229_68 : am_fetch (am_mth 229) 68 = some (.iinc 6 1, 3, [], [0]) := by decide +kernel
theorem bf229_71 : am_fetch (am_mth 229) 71 = some (.goto (-30), 3, [], [0]) := by decide +kernel
theorem bf229_74 : am_fetch (am_mth 229) 74 = some (.iload 5, 2, [], [0, 6]) := by decide +kernel
theorem bf229_76 : am_fetch (am_mth 229) 76 = some (.ifCond .eq 29, 3, [], [0, 5, 6]) := by decide +kernel
theorem bf229_79 : am_fetch (am_mth 229) 79 = some (.aload_n 2, 1, [], [0, 5, 6]) := by decide +kernel
theorem bf229_80 : am_fetch (am_mth 229) 80 = some (.iload 4, 2, [], [0, 5, 6]) := by decide +kernel
theorem bf229_82 : am_fetch (am_mth 229) 82 = some (.iaload, 1, [], [0, 5, 6]) := by decide +kernel
theorem bf229_83 : am_fetch (am_mth 229) 83 = some (.iconst (-1), 1, [], [0, 5, 6]) := by decide +kernel
theorem bf229_84 : am_fetch (am_mth 229) 84 = some (.if_icmp .eq 21, 3, [], [0, 5, 6]) := by decide +kernel
theorem bf229_87 : am_fetch (am_mth 229) 87 = some (.iload_n 3, 1, [], [0, 5, 6]) := by decide +kernel
theorem bf229_88 : am_fetch (am_mth 229) 88 = some (.iconst (-1), 1, [], [0, 5, 6]) := by decide +kernel
theorem bf229_89 : am_fetch (am_mth 229) 89 = some (.if_icmp .eq 13, 3, [], [0, 5, 6]) := by decide +kernel
theorem bf229_92 : am_fetch (am_mth 229) 92 = some (.aload_n 2, 1, [], [0, 5, 6]) := by decide +kernel
theorem bf229_93 : am_fetch (am_mth 229) 93 = some (.iload 4, 2, [], [0, 5, 6]) := by decide +kernel
theorem bf229_95 : am_fetch (am_mth 229) 95 = some (.iaload, 1, [], [0, 5, 6]) := by decide +kernel
theorem bf229_96 : am_fetch (am_mth 229) 96 = some (.aload_n 2, 1, [], [0, 5, 6]) := by decide +kernel
theorem bf229_97 : am_fetch (am_mth 229) 97 = some (.iload_n 3, 1, [], [0, 5, 6]) := by decide +kernel
theorem bf229_98 : am_fetch (am_mth 229) 98 = some (.iaload, 1, [], [0, 5, 6]) := by decide +kernel
theorem bf229_99 : am_fetch (am_mth 229) 99 = some (.if_icmp .ge 6, 3, [], [0, 5, 6]) := by decide +kernel
theorem bf229_102 : am_fetch (am_mth 229) 102 = some (.iload 4, 2, [], [0, 3, 5, 6]) := by decide +kernel
theorem bf229_104 : am_fetch (am_mth 229) 104 = some (.istore_n 3, 1, [], [0, 3, 5, 6]) := by decide +kernel
theorem bf229_105 : am_fetch (am_mth 229) 105 = some (.iinc 4 1, 3, [], [0, 5, 6]) := by decide +kernel
theorem bf229_108 : am_fetch (am_mth 229) 108 = some (.goto (-80), 3, [], [0, 5, 6]) := by decide +kernel
theorem bf229_111 : am_fetch (am_mth 229) 111 = some (.iload_n 3, 1, [], [0, 1, 2, 4, 5, 6]) := by decide +kernel
theorem bf229_112 : am_fetch (am_mth 229) 112 = some (.ireturn, 1, [0], [0, 1, 2, 3, 4, 5, 6]) := by decide +kernel
theorem bk229_0 {w : am_Wd} {l0 : Nat} {l1 : Nat} : am_run 229 0 [some (.ref l0), some (.ref l1), none, none, none, none, none] [] w = (am_kf w l1 10).bind fun _ => (am_x 95 [.ref l1] w).bind fun r => bct r fun v w' => am_run 229 4 [some (.ref l0), some (.ref l1), none, none, none, none, none] (v.toList ++ []) w' := by
  refine (bu (ls'' := [some (.ref l0), some (.ref l1), none, none, none, none, none]) (st' := [.ref l1]) bf229_0 bf229_1 rfl rfl).trans ?_
  exact bkV bf229_1 bf229_4 rfl (by decide +kernel) (Nat.le_of_ble_eq_true rfl) rfl (bhd rfl)
theorem bk229_4 {w : am_Wd} {l0 : Nat} {l1 : Nat} {s0 : Int32} : am_run 229 4 [some (.ref l0), some (.ref l1), none, none, none, none, none] [.int s0] w = if ¬ s0 = (-1 : Int32) then am_run 229 11 [some (.ref l0), some (.ref l1), none, none, none, none, none] [] w else am_run 229 8 [none, none, none, none, none, none, none] [] w := by
  refine (bu (ls'' := [some (.ref l0), some (.ref l1), none, none, none, none, none]) (st' := [.int (-1 : Int32), .int s0]) bf229_4 bf229_5 rfl rfl).trans ?_
  exact bic bf229_5 rfl bf229_11 bf229_8 rfl rfl rfl
theorem bk229_11 {w : am_Wd} {l0 : Nat} {l1 : Nat} : am_run 229 11 [some (.ref l0), some (.ref l1), none, none, none, none, none] [] w = (am_kf w l1 10).bind fun _ => (am_x 95 [.ref l1] w).bind fun r => bct r fun v w' => am_run 229 17 [none, some (.ref l1), none, none, none, none, none] (v.toList ++ [.ref l1, .ref l0]) w' := by
  refine (bu (ls'' := [none, some (.ref l1), none, none, none, none, none]) (st' := [.ref l0]) bf229_11 bf229_12 rfl rfl).trans ?_
  refine (bu (ls'' := [none, some (.ref l1), none, none, none, none, none]) (st' := [.ref l1, .ref l0]) bf229_12 bf229_13 rfl rfl).trans ?_
  refine (bu (ls'' := [none, some (.ref l1), none, none, none, none, none]) (st' := [.ref l1, .ref l1, .ref l0]) bf229_13 bf229_14 rfl rfl).trans ?_
  exact bkV bf229_14 bf229_17 rfl (by decide +kernel) (Nat.le_of_ble_eq_true rfl) rfl (bhd rfl)
theorem bk229_8 {w : am_Wd}  : am_run 229 8 [none, none, none, none, none, none, none] [] w = some (.inl (some (.int (-2 : Int32))), w) := by
  refine (bu (ls'' := [none, none, none, none, none, none, none]) (st' := [.int (-2 : Int32)]) bf229_8 bf229_10 rfl rfl).trans ?_
  exact am_e2 bf229_10 rfl (am_ge_rf w)
theorem bk229_17 {w : am_Wd} {l1 : Nat} {s0 : Int32} {s1 : Nat} {s2 : Nat} : am_run 229 17 [none, some (.ref l1), none, none, none, none, none] [.int s0, .ref s1, .ref s2] w = (am_kf w s2 11).bind fun _ => (am_x 208 [.ref s2, .ref s1, .int (s0 / (nI 4))] w).bind fun r => bct r fun v w' => am_run 229 22 [none, some (.ref l1), none, none, none, none, none] (v.toList ++ []) w' := by
  refine (bu (ls'' := [none, some (.ref l1), none, none, none, none, none]) (st' := [.int (nI 4), .int s0, .ref s1, .ref s2]) bf229_17 bf229_18 rfl rfl).trans ?_
  refine (bu (ls'' := [none, some (.ref l1), none, none, none, none, none]) (st' := [.int (s0 / (nI 4)), .ref s1, .ref s2]) bf229_18 bf229_19 rfl rfl).trans ?_
  exact bkV bf229_19 bf229_22 rfl (by decide +kernel) (Nat.le_of_ble_eq_true rfl) rfl (bhd rfl)
theorem bk229_22 {w : am_Wd} {l1 : Nat} {s0 : Nat} : am_run 229 22 [none, some (.ref l1), none, none, none, none, none] [.ref s0] w = am_run 229 28 [none, some (.ref l1), some (.ref s0), some (.int (-1 : Int32)), some (.int (nI 0)), none, none] [] w := by
  refine (bu (ls'' := [none, some (.ref l1), some (.ref s0), none, none, none, none]) (st' := []) bf229_22 bf229_23 rfl rfl).trans ?_
  refine (bu (ls'' := [none, some (.ref l1), some (.ref s0), none, none, none, none]) (st' := [.int (-1 : Int32)]) bf229_23 bf229_24 rfl rfl).trans ?_
  refine (bu (ls'' := [none, some (.ref l1), some (.ref s0), some (.int (-1 : Int32)), none, none, none]) (st' := []) bf229_24 bf229_25 rfl rfl).trans ?_
  refine (bu (ls'' := [none, some (.ref l1), some (.ref s0), some (.int (-1 : Int32)), none, none, none]) (st' := [.int (nI 0)]) bf229_25 bf229_26 rfl rfl).trans ?_
  refine (bu (ls'' := [none, some (.ref l1), some (.ref s0), some (.int (-1 : Int32)), some (.int (nI 0)), none, none]) (st' := []) bf229_26 bf229_28 rfl rfl).trans ?_
  rfl
theorem bk229_28 {w : am_Wd} {l1 : Nat} {l2 : Nat} {l3 : Int32} {l4 : Int32} : am_run 229 28 [none, some (.ref l1), some (.ref l2), some (.int l3), some (.int l4), none, none] [] w = if (nI 36) ≤ l4 then am_run 229 111 [none, none, none, some (.int l3), none, none, none] [] w else am_run 229 35 [none, some (.ref l1), some (.ref l2), some (.int l3), some (.int l4), none, none] [] w := by
  refine (bu (ls'' := [none, some (.ref l1), some (.ref l2), some (.int l3), some (.int l4), none, none]) (st' := [.int l4]) bf229_28 bf229_30 rfl rfl).trans ?_
  refine (bu (ls'' := [none, some (.ref l1), some (.ref l2), some (.int l3), some (.int l4), none, none]) (st' := [.int (nI 36), .int l4]) bf229_30 bf229_32 rfl rfl).trans ?_
  exact bic bf229_32 rfl bf229_111 bf229_35 rfl rfl rfl
theorem bk229_111 {w : am_Wd} {l3 : Int32} : am_run 229 111 [none, none, none, some (.int l3), none, none, none] [] w = some (.inl (some (.int l3)), w) := by
  refine (bu (ls'' := [none, none, none, none, none, none, none]) (st' := [.int l3]) bf229_111 bf229_112 rfl rfl).trans ?_
  exact am_e2 bf229_112 rfl (am_ge_rf w)
theorem bk229_35 {w : am_Wd} {l1 : Nat} {l2 : Nat} {l3 : Int32} {l4 : Int32} : am_run 229 35 [none, some (.ref l1), some (.ref l2), some (.int l3), some (.int l4), none, none] [] w = am_run 229 41 [none, some (.ref l1), some (.ref l2), some (.int l3), some (.int l4), some (.int (nI 0)), some (.int (nI 0))] [] w := by
  refine (bu (ls'' := [none, some (.ref l1), some (.ref l2), some (.int l3), some (.int l4), none, none]) (st' := [.int (nI 0)]) bf229_35 bf229_36 rfl rfl).trans ?_
  refine (bu (ls'' := [none, some (.ref l1), some (.ref l2), some (.int l3), some (.int l4), some (.int (nI 0)), none]) (st' := []) bf229_36 bf229_38 rfl rfl).trans ?_
  refine (bu (ls'' := [none, some (.ref l1), some (.ref l2), some (.int l3), some (.int l4), some (.int (nI 0)), none]) (st' := [.int (nI 0)]) bf229_38 bf229_39 rfl rfl).trans ?_
  refine (bu (ls'' := [none, some (.ref l1), some (.ref l2), some (.int l3), some (.int l4), some (.int (nI 0)), some (.int (nI 0))]) (st' := []) bf229_39 bf229_41 rfl rfl).trans ?_
  rfl
theorem bk229_41 {w : am_Wd} {l1 : Nat} {l2 : Nat} {l3 : Int32} {l4 : Int32} {l5 : Int32} {l6 : Int32} : am_run 229 41 [none, some (.ref l1), some (.ref l2), some (.int l3), some (.int l4), some (.int l5), some (.int l6)] [] w = if (nI 4) ≤ l6 then am_run 229 74 [none, some (.ref l1), some (.ref l2), some (.int l3), some (.int l4), some (.int l5), none] [] w else am_run 229 47 [none, some (.ref l1), some (.ref l2), some (.int l3), some (.int l4), some (.int l5), some (.int l6)] [] w := by
  refine (bu (ls'' := [none, some (.ref l1), some (.ref l2), some (.int l3), some (.int l4), some (.int l5), some (.int l6)]) (st' := [.int l6]) bf229_41 bf229_43 rfl rfl).trans ?_
  refine (bu (ls'' := [none, some (.ref l1), some (.ref l2), some (.int l3), some (.int l4), some (.int l5), some (.int l6)]) (st' := [.int (nI 4), .int l6]) bf229_43 bf229_44 rfl rfl).trans ?_
  exact bic bf229_44 rfl bf229_74 bf229_47 rfl rfl rfl
theorem bk229_74 {w : am_Wd} {l1 : Nat} {l2 : Nat} {l3 : Int32} {l4 : Int32} {l5 : Int32} : am_run 229 74 [none, some (.ref l1), some (.ref l2), some (.int l3), some (.int l4), some (.int l5), none] [] w = if l5 = nI 0 then am_run 229 105 [none, some (.ref l1), some (.ref l2), some (.int l3), some (.int l4), none, none] [] w else am_run 229 79 [none, some (.ref l1), some (.ref l2), some (.int l3), some (.int l4), none, none] [] w := by
  refine (bu (ls'' := [none, some (.ref l1), some (.ref l2), some (.int l3), some (.int l4), none, none]) (st' := [.int l5]) bf229_74 bf229_76 rfl rfl).trans ?_
  exact bifc bf229_76 rfl bf229_105 bf229_79 rfl rfl rfl
theorem bk229_47 {w : am_Wd} {l1 : Nat} {l2 : Nat} {l3 : Int32} {l4 : Int32} {l5 : Int32} {l6 : Int32} : am_run 229 47 [none, some (.ref l1), some (.ref l2), some (.int l3), some (.int l4), some (.int l5), some (.int l6)] [] w = (am_x 174 [.ref l1, .int l4, .int l6] w).bind fun r => bct r fun v w' => am_run 229 57 [none, some (.ref l1), some (.ref l2), some (.int l3), some (.int l4), none, some (.int l6)] (v.toList ++ [.int l5]) w' := by
  refine (bu (ls'' := [none, some (.ref l1), some (.ref l2), some (.int l3), some (.int l4), none, some (.int l6)]) (st' := [.int l5]) bf229_47 bf229_49 rfl rfl).trans ?_
  refine (bu (ls'' := [none, some (.ref l1), some (.ref l2), some (.int l3), some (.int l4), none, some (.int l6)]) (st' := [.ref l1, .int l5]) bf229_49 bf229_50 rfl rfl).trans ?_
  refine (bu (ls'' := [none, some (.ref l1), some (.ref l2), some (.int l3), some (.int l4), none, some (.int l6)]) (st' := [.int l4, .ref l1, .int l5]) bf229_50 bf229_52 rfl rfl).trans ?_
  refine (bu (ls'' := [none, some (.ref l1), some (.ref l2), some (.int l3), some (.int l4), none, some (.int l6)]) (st' := [.int l6, .int l4, .ref l1, .int l5]) bf229_52 bf229_54 rfl rfl).trans ?_
  exact bkS bf229_54 bf229_57 rfl (by decide +kernel) (Nat.le_of_ble_eq_true rfl) rfl (bhd rfl)
theorem bk229_105 {w : am_Wd} {l1 : Nat} {l2 : Nat} {l3 : Int32} {l4 : Int32} : am_run 229 105 [none, some (.ref l1), some (.ref l2), some (.int l3), some (.int l4), none, none] [] w = am_run 229 28 [none, some (.ref l1), some (.ref l2), some (.int l3), some (.int (l4 + (nI 1))), none, none] [] w := by
  refine (bu (ls'' := [none, some (.ref l1), some (.ref l2), some (.int l3), some (.int (l4 + (nI 1))), none, none]) (st' := []) bf229_105 bf229_108 rfl rfl).trans ?_
  refine (bu (ls'' := [none, some (.ref l1), some (.ref l2), some (.int l3), some (.int (l4 + (nI 1))), none, none]) (st' := []) bf229_108 bf229_28 rfl rfl).trans ?_
  rfl
theorem bk229_79 {w : am_Wd} {l1 : Nat} {l2 : Nat} {l3 : Int32} {l4 : Int32} : am_run 229 79 [none, some (.ref l1), some (.ref l2), some (.int l3), some (.int l4), none, none] [] w = (am_ri 0 w l2 l4).bind fun v => am_run 229 83 [none, some (.ref l1), some (.ref l2), some (.int l3), some (.int l4), none, none] (.int v :: []) w := by
  refine (bu (ls'' := [none, some (.ref l1), some (.ref l2), some (.int l3), some (.int l4), none, none]) (st' := [.ref l2]) bf229_79 bf229_80 rfl rfl).trans ?_
  refine (bu (ls'' := [none, some (.ref l1), some (.ref l2), some (.int l3), some (.int l4), none, none]) (st' := [.int l4, .ref l2]) bf229_80 bf229_82 rfl rfl).trans ?_
  exact bh bf229_82 bf229_83 rfl (fun _ _ => am_ge_rf w) rfl
theorem bk229_57 {w : am_Wd} {l1 : Nat} {l2 : Nat} {l3 : Int32} {l4 : Int32} {l6 : Int32} {s0 : Int32} {s1 : Int32} : am_run 229 57 [none, some (.ref l1), some (.ref l2), some (.int l3), some (.int l4), none, some (.int l6)] [.int s0, .int s1] w = if ¬ s0 = nI 0 then am_run 229 64 [none, some (.ref l1), some (.ref l2), some (.int l3), some (.int l4), none, some (.int l6)] [.int s1] w else am_run 229 60 [none, some (.ref l1), some (.ref l2), some (.int l3), some (.int l4), none, some (.int l6)] [.int s1] w := by
  exact bifc bf229_57 rfl bf229_64 bf229_60 rfl rfl rfl
theorem bk229_83 {w : am_Wd} {l1 : Nat} {l2 : Nat} {l3 : Int32} {l4 : Int32} {s0 : Int32} : am_run 229 83 [none, some (.ref l1), some (.ref l2), some (.int l3), some (.int l4), none, none] [.int s0] w = if s0 = (-1 : Int32) then am_run 229 105 [none, some (.ref l1), some (.ref l2), some (.int l3), some (.int l4), none, none] [] w else am_run 229 87 [none, some (.ref l1), some (.ref l2), some (.int l3), some (.int l4), none, none] [] w := by
  refine (bu (ls'' := [none, some (.ref l1), some (.ref l2), some (.int l3), some (.int l4), none, none]) (st' := [.int (-1 : Int32), .int s0]) bf229_83 bf229_84 rfl rfl).trans ?_
  exact bic bf229_84 rfl bf229_105 bf229_87 rfl rfl rfl
theorem bk229_64 {w : am_Wd} {l1 : Nat} {l2 : Nat} {l3 : Int32} {l4 : Int32} {l6 : Int32} {s0 : Int32} : am_run 229 64 [none, some (.ref l1), some (.ref l2), some (.int l3), some (.int l4), none, some (.int l6)] [.int s0] w = am_run 229 65 [none, some (.ref l1), some (.ref l2), some (.int l3), some (.int l4), none, some (.int l6)] [.int (nI 0), .int s0] w := by
  refine (bu (ls'' := [none, some (.ref l1), some (.ref l2), some (.int l3), some (.int l4), none, some (.int l6)]) (st' := [.int (nI 0), .int s0]) bf229_64 bf229_65 rfl rfl).trans ?_
  rfl
theorem bk229_60 {w : am_Wd} {l1 : Nat} {l2 : Nat} {l3 : Int32} {l4 : Int32} {l6 : Int32} {s0 : Int32} : am_run 229 60 [none, some (.ref l1), some (.ref l2), some (.int l3), some (.int l4), none, some (.int l6)] [.int s0] w = am_run 229 65 [none, some (.ref l1), some (.ref l2), some (.int l3), some (.int l4), none, some (.int l6)] [.int (nI 1), .int s0] w := by
  refine (bu (ls'' := [none, some (.ref l1), some (.ref l2), some (.int l3), some (.int l4), none, some (.int l6)]) (st' := [.int (nI 1), .int s0]) bf229_60 bf229_61 rfl rfl).trans ?_
  refine (bu (ls'' := [none, some (.ref l1), some (.ref l2), some (.int l3), some (.int l4), none, some (.int l6)]) (st' := [.int (nI 1), .int s0]) bf229_61 bf229_65 rfl rfl).trans ?_
  rfl
theorem bk229_87 {w : am_Wd} {l1 : Nat} {l2 : Nat} {l3 : Int32} {l4 : Int32} : am_run 229 87 [none, some (.ref l1), some (.ref l2), some (.int l3), some (.int l4), none, none] [] w = if l3 = (-1 : Int32) then am_run 229 102 [none, some (.ref l1), some (.ref l2), none, some (.int l4), none, none] [] w else am_run 229 92 [none, some (.ref l1), some (.ref l2), some (.int l3), some (.int l4), none, none] [] w := by
  refine (bu (ls'' := [none, some (.ref l1), some (.ref l2), some (.int l3), some (.int l4), none, none]) (st' := [.int l3]) bf229_87 bf229_88 rfl rfl).trans ?_
  refine (bu (ls'' := [none, some (.ref l1), some (.ref l2), some (.int l3), some (.int l4), none, none]) (st' := [.int (-1 : Int32), .int l3]) bf229_88 bf229_89 rfl rfl).trans ?_
  exact bic bf229_89 rfl bf229_102 bf229_92 rfl rfl rfl
theorem bk229_65 {w : am_Wd} {l1 : Nat} {l2 : Nat} {l3 : Int32} {l4 : Int32} {l6 : Int32} {s0 : Int32} {s1 : Int32} : am_run 229 65 [none, some (.ref l1), some (.ref l2), some (.int l3), some (.int l4), none, some (.int l6)] [.int s0, .int s1] w = am_run 229 41 [none, some (.ref l1), some (.ref l2), some (.int l3), some (.int l4), some (.int (s1 ||| s0)), some (.int (l6 + (nI 1)))] [] w := by
  refine (bu (ls'' := [none, some (.ref l1), some (.ref l2), some (.int l3), some (.int l4), none, some (.int l6)]) (st' := [.int (s1 ||| s0)]) bf229_65 bf229_66 rfl rfl).trans ?_
  refine (bu (ls'' := [none, some (.ref l1), some (.ref l2), some (.int l3), some (.int l4), some (.int (s1 ||| s0)), some (.int l6)]) (st' := []) bf229_66 bf229_68 rfl rfl).trans ?_
  refine (bu (ls'' := [none, some (.ref l1), some (.ref l2), some (.int l3), some (.int l4), some (.int (s1 ||| s0)), some (.int (l6 + (nI 1)))]) (st' := []) bf229_68 bf229_71 rfl rfl).trans ?_
  refine (bu (ls'' := [none, some (.ref l1), some (.ref l2), some (.int l3), some (.int l4), some (.int (s1 ||| s0)), some (.int (l6 + (nI 1)))]) (st' := []) bf229_71 bf229_41 rfl rfl).trans ?_
  rfl
theorem bk229_102 {w : am_Wd} {l1 : Nat} {l2 : Nat} {l4 : Int32} : am_run 229 102 [none, some (.ref l1), some (.ref l2), none, some (.int l4), none, none] [] w = am_run 229 105 [none, some (.ref l1), some (.ref l2), some (.int l4), some (.int l4), none, none] [] w := by
  refine (bu (ls'' := [none, some (.ref l1), some (.ref l2), none, some (.int l4), none, none]) (st' := [.int l4]) bf229_102 bf229_104 rfl rfl).trans ?_
  refine (bu (ls'' := [none, some (.ref l1), some (.ref l2), some (.int l4), some (.int l4), none, none]) (st' := []) bf229_104 bf229_105 rfl rfl).trans ?_
  rfl
theorem bk229_92 {w : am_Wd} {l1 : Nat} {l2 : Nat} {l3 : Int32} {l4 : Int32} : am_run 229 92 [none, some (.ref l1), some (.ref l2), some (.int l3), some (.int l4), none, none] [] w = (am_ri 0 w l2 l4).bind fun v => am_run 229 96 [none, some (.ref l1), some (.ref l2), some (.int l3), some (.int l4), none, none] (.int v :: []) w := by
  refine (bu (ls'' := [none, some (.ref l1), some (.ref l2), some (.int l3), some (.int l4), none, none]) (st' := [.ref l2]) bf229_92 bf229_93 rfl rfl).trans ?_
  refine (bu (ls'' := [none, some (.ref l1), some (.ref l2), some (.int l3), some (.int l4), none, none]) (st' := [.int l4, .ref l2]) bf229_93 bf229_95 rfl rfl).trans ?_
  exact bh bf229_95 bf229_96 rfl (fun _ _ => am_ge_rf w) rfl
theorem bk229_96 {w : am_Wd} {l1 : Nat} {l2 : Nat} {l3 : Int32} {l4 : Int32} {s0 : Int32} : am_run 229 96 [none, some (.ref l1), some (.ref l2), some (.int l3), some (.int l4), none, none] [.int s0] w = (am_ri 0 w l2 l3).bind fun v => am_run 229 99 [none, some (.ref l1), some (.ref l2), some (.int l3), some (.int l4), none, none] (.int v :: [.int s0]) w := by
  refine (bu (ls'' := [none, some (.ref l1), some (.ref l2), some (.int l3), some (.int l4), none, none]) (st' := [.ref l2, .int s0]) bf229_96 bf229_97 rfl rfl).trans ?_
  refine (bu (ls'' := [none, some (.ref l1), some (.ref l2), some (.int l3), some (.int l4), none, none]) (st' := [.int l3, .ref l2, .int s0]) bf229_97 bf229_98 rfl rfl).trans ?_
  exact bh bf229_98 bf229_99 rfl (fun _ _ => am_ge_rf w) rfl
theorem bk229_99 {w : am_Wd} {l1 : Nat} {l2 : Nat} {l3 : Int32} {l4 : Int32} {s0 : Int32} {s1 : Int32} : am_run 229 99 [none, some (.ref l1), some (.ref l2), some (.int l3), some (.int l4), none, none] [.int s0, .int s1] w = if s0 ≤ s1 then am_run 229 105 [none, some (.ref l1), some (.ref l2), some (.int l3), some (.int l4), none, none] [] w else am_run 229 102 [none, some (.ref l1), some (.ref l2), none, some (.int l4), none, none] [] w := by
  exact bic bf229_99 rfl bf229_105 bf229_102 rfl rfl rfl
theorem bf230_0 : am_fetch (am_mth 230) 0 = some (.iload_n 2, 1, [], [0, 3, 4]) := by decide +kernel
theorem bf230_1 : am_fetch (am_mth 230) 1 = some (.iconst 1, 1, [], [0, 3, 4]) := by decide +kernel
theorem bf230_2 : am_fetch (am_mth 230) 2 = some (.if_icmp .eq 8, 3, [], [0, 3, 4]) := by decide +kernel
theorem bf230_5 : am_fetch (am_mth 230) 5 = some (.iload_n 2, 1, [], [0, 3, 4]) := by decide +kernel
theorem bf230_6 : am_fetch (am_mth 230) 6 = some (.iconst 2, 1, [], [0, 3, 4]) := by decide +kernel
theorem bf230_7 : am_fetch (am_mth 230) 7 = some (.if_icmp .ne 8, 3, [], [0, 3, 4]) := by decide +kernel
theorem bf230_10 : am_fetch (am_mth 230) 10 = some (.aload_n 1, 1, [], [0, 2, 3, 4]) := by decide +kernel
theorem bf230_11 : am_fetch (am_mth 230) 11 = some (.invokevirtual 143, 3, [0, 37, 0, 10, 1459, 1408, 1409, 66], [0, 1, 2, 3, 4]) := by decide +kernel
theorem bf230_14 : am_fetch (am_mth 230) 14 = some (.ireturn, 1, [0], [0, 1, 2, 3, 4]) := by decide +kernel
theorem bf230_15 : am_fetch (am_mth 230) 15 = some (.iload_n 2, 1, [], [0, 3, 4]) := by decide +kernel
theorem bf230_16 : am_fetch (am_mth 230) 16 = some (.ifCond .ne 23, 3, [], [0, 2, 3, 4]) := by decide +kernel
theorem bf230_19 : am_fetch (am_mth 230) 19 = some (.aload_n 1, 1, [], [0, 2, 3, 4]) := by decide +kernel
theorem bf230_20 : am_fetch (am_mth 230) 20 = some (.iconst 1, 1, [], [0, 2, 3, 4]) := by decide +kernel
theorem bf230_21 : am_fetch (am_mth 230) 21 = some (.invokestatic 179, 3, [0, 209, 2, 1453, 1454, 48], [0, 2, 3, 4]) := by decide +kernel
theorem bf230_24 : am_fetch (am_mth 230) 24 = some (.invokestatic 93, 3, [0, 44, 1, 1284, 1285, 48], [0, 2, 3, 4]) := by decide +kernel
theorem bf230_27 : am_fetch (am_mth 230) 27 = some (.aload_n 1, 1, [], [0, 2, 3, 4]) := by decide +kernel
theorem bf230_28 : am_fetch (am_mth 230) 28 = some (.iconst 0, 1, [], [0, 1, 2, 3, 4]) := by decide +kernel
theorem bf230_29 : am_fetch (am_mth 230) 29 = some (.invokestatic 179, 3, [0, 209, 2, 1453, 1454, 48], [0, 1, 2, 3, 4]) := by decide +kernel
theorem bf230_32 : am_fetch (am_mth 230) 32 = some (.invokestatic 93, 3, [0, 44, 1, 1284, 1285, 48], [0, 1, 2, 3, 4]) := by decide +kernel
theorem bf230_35 : am_fetch (am_mth 230) 35 = some (.invokestatic 289, 3, [1, 1669, 446, 59, 447], [0, 1, 2, 3, 4]) := by decide +kernel
theorem bf230_38 : am_fetch (am_mth 230) 38 = some (.ireturn, 1, [0], [0, 1, 2, 3, 4]) := by decide +kernel
theorem bf230_39 : am_fetch (am_mth 230) 39 = some (.iconst 0, 1, [], [0, 2, 3, 4]) := by decide +kernel
theorem bf230_40 : am_fetch (am_mth 230) 40 = some (.istore_n 3, 1, [], [0, 2, 3, 4]) := by decide +kernel
theorem bf230_41 : am_fetch (am_mth 230) 41 = some (.iconst 0, 1, [], [0, 2, 4]) := by decide +kernel
theorem bf230_42 : am_fetch (am_mth 230) 42 = some (.istore 4, 2, [], [0, 2, 4]) := by decide +kernel
theorem bf230_44 : am_fetch (am_mth 230) 44 = some (.iload 4, 2, [], [0, 2]) := by decide +kernel
theorem bf230_46 : am_fetch (am_mth 230) 46 = some (.bipush 8, 2, [], [0, 2]) := by decide +kernel
theorem bf230_48 : am_fetch (am_mth 230) 48 = some (.if_icmp .ge 23, 3, [], [0, 2]) := by decide +kernel
theorem bf230_51 : am_fetch (am_mth 230) 51 = some (.iload_n 3, 1, [], [0, 2]) := by decide +kernel
theorem bf230_52 : am_fetch (am_mth 230) 52 = some (.aload_n 1, 1, [], [0, 2, 3]) := by decide +kernel
theorem bf230_53 : am_fetch (am_mth 230) 53 = some (.iload 4, 2, [], [0, 2, 3]) := by decide +kernel
theorem bf230_55 : am_fetch (am_mth 230) 55 = some (.invokestatic 196, 3, [0, 211, 2, 1479, 1480, 48], [0, 2, 3]) := by decide +kernel
theorem bf230_58 : am_fetch (am_mth 230) 58 = some (.invokestatic 93, 3, [0, 44, 1, 1284, 1285, 48], [0, 2, 3]) := by decide +kernel
theorem bf230_61 : am_fetch (am_mth 230) 61 = some (.invokestatic 289, 3, [1, 1669, 446, 59, 447], [0, 2, 3]) := by decide +kernel
theorem bf230_64 : am_fetch (am_mth 230) 64 = some (.istore_n 3, 1, [], [0, 2, 3]) := by decide +kernel
theorem bf230_65 : am_fetch (am_mth 230) 65 = some (.iinc 4 1, 3, [], [0, 2]) := by decide +kernel
theorem bf230_68 : am_fetch (am_mth 230) 68 = some (.goto (-24), 3, [], [0, 2]) := by decide +kernel
theorem bf230_71 : am_fetch (am_mth 230) 71 = some (.iload_n 3, 1, [], [0, 1, 2, 4]) := by decide +kernel
theorem bf230_72 : am_fetch (am_mth 230) 72 = some (.ireturn, 1, [0], [0, 1, 2, 3, 4]) := by decide +kernel
theorem bk230_0 {w : am_Wd} {l1 : Nat} {l2 : Int32} : am_run 230 0 [none, some (.ref l1), some (.int l2), none, none] [] w = if l2 = (nI 1) then am_run 230 10 [none, some (.ref l1), none, none, none] [] w else am_run 230 5 [none, some (.ref l1), some (.int l2), none, none] [] w := by
  refine (bu (ls'' := [none, some (.ref l1), some (.int l2), none, none]) (st' := [.int l2]) bf230_0 bf230_1 rfl rfl).trans ?_
  refine (bu (ls'' := [none, some (.ref l1), some (.int l2), none, none]) (st' := [.int (nI 1), .int l2]) bf230_1 bf230_2 rfl rfl).trans ?_
  exact bic bf230_2 rfl bf230_10 bf230_5 rfl rfl rfl
theorem bk230_10 {w : am_Wd} {l1 : Nat} : am_run 230 10 [none, some (.ref l1), none, none, none] [] w = (am_kf w l1 10).bind fun _ => (am_x 37 [.ref l1] w).bind fun r => bct r fun v w' => am_run 230 14 [none, none, none, none, none] (v.toList ++ []) w' := by
  refine (bu (ls'' := [none, none, none, none, none]) (st' := [.ref l1]) bf230_10 bf230_11 rfl rfl).trans ?_
  exact bkV bf230_11 bf230_14 rfl (by decide +kernel) (Nat.le_of_ble_eq_true rfl) rfl (bhd rfl)
theorem bk230_5 {w : am_Wd} {l1 : Nat} {l2 : Int32} : am_run 230 5 [none, some (.ref l1), some (.int l2), none, none] [] w = if ¬ l2 = (nI 2) then am_run 230 15 [none, some (.ref l1), some (.int l2), none, none] [] w else am_run 230 10 [none, some (.ref l1), none, none, none] [] w := by
  refine (bu (ls'' := [none, some (.ref l1), some (.int l2), none, none]) (st' := [.int l2]) bf230_5 bf230_6 rfl rfl).trans ?_
  refine (bu (ls'' := [none, some (.ref l1), some (.int l2), none, none]) (st' := [.int (nI 2), .int l2]) bf230_6 bf230_7 rfl rfl).trans ?_
  exact bic bf230_7 rfl bf230_15 bf230_10 rfl rfl rfl
theorem bk230_14 {w : am_Wd} {s0 : Int32} : am_run 230 14 [none, none, none, none, none] [.int s0] w = some (.inl (some (.int s0)), w) := by
  exact am_e2 bf230_14 rfl (am_ge_rf w)
theorem bk230_15 {w : am_Wd} {l1 : Nat} {l2 : Int32} : am_run 230 15 [none, some (.ref l1), some (.int l2), none, none] [] w = if ¬ l2 = nI 0 then am_run 230 39 [none, some (.ref l1), none, none, none] [] w else am_run 230 19 [none, some (.ref l1), none, none, none] [] w := by
  refine (bu (ls'' := [none, some (.ref l1), none, none, none]) (st' := [.int l2]) bf230_15 bf230_16 rfl rfl).trans ?_
  exact bifc bf230_16 rfl bf230_39 bf230_19 rfl rfl rfl
theorem bk230_39 {w : am_Wd} {l1 : Nat} : am_run 230 39 [none, some (.ref l1), none, none, none] [] w = am_run 230 44 [none, some (.ref l1), none, some (.int (nI 0)), some (.int (nI 0))] [] w := by
  refine (bu (ls'' := [none, some (.ref l1), none, none, none]) (st' := [.int (nI 0)]) bf230_39 bf230_40 rfl rfl).trans ?_
  refine (bu (ls'' := [none, some (.ref l1), none, some (.int (nI 0)), none]) (st' := []) bf230_40 bf230_41 rfl rfl).trans ?_
  refine (bu (ls'' := [none, some (.ref l1), none, some (.int (nI 0)), none]) (st' := [.int (nI 0)]) bf230_41 bf230_42 rfl rfl).trans ?_
  refine (bu (ls'' := [none, some (.ref l1), none, some (.int (nI 0)), some (.int (nI 0))]) (st' := []) bf230_42 bf230_44 rfl rfl).trans ?_
  rfl
theorem bk230_19 {w : am_Wd} {l1 : Nat} : am_run 230 19 [none, some (.ref l1), none, none, none] [] w = (am_x 209 [.ref l1, .int (nI 1)] w).bind fun r => bct r fun v w' => am_run 230 24 [none, some (.ref l1), none, none, none] (v.toList ++ []) w' := by
  refine (bu (ls'' := [none, some (.ref l1), none, none, none]) (st' := [.ref l1]) bf230_19 bf230_20 rfl rfl).trans ?_
  refine (bu (ls'' := [none, some (.ref l1), none, none, none]) (st' := [.int (nI 1), .ref l1]) bf230_20 bf230_21 rfl rfl).trans ?_
  exact bkS bf230_21 bf230_24 rfl (by decide +kernel) (Nat.le_of_ble_eq_true rfl) rfl (bhd rfl)
theorem bk230_44 {w : am_Wd} {l1 : Nat} {l3 : Int32} {l4 : Int32} : am_run 230 44 [none, some (.ref l1), none, some (.int l3), some (.int l4)] [] w = if (nI 8) ≤ l4 then am_run 230 71 [none, none, none, some (.int l3), none] [] w else am_run 230 51 [none, some (.ref l1), none, some (.int l3), some (.int l4)] [] w := by
  refine (bu (ls'' := [none, some (.ref l1), none, some (.int l3), some (.int l4)]) (st' := [.int l4]) bf230_44 bf230_46 rfl rfl).trans ?_
  refine (bu (ls'' := [none, some (.ref l1), none, some (.int l3), some (.int l4)]) (st' := [.int (nI 8), .int l4]) bf230_46 bf230_48 rfl rfl).trans ?_
  exact bic bf230_48 rfl bf230_71 bf230_51 rfl rfl rfl
theorem bk230_24 {w : am_Wd} {l1 : Nat} {s0 : Nat} : am_run 230 24 [none, some (.ref l1), none, none, none] [.ref s0] w = (am_x 44 [.ref s0] w).bind fun r => bct r fun v w' => am_run 230 27 [none, some (.ref l1), none, none, none] (v.toList ++ []) w' := by
  exact bkS bf230_24 bf230_27 rfl (by decide +kernel) (Nat.le_of_ble_eq_true rfl) rfl (bhd rfl)
theorem bk230_71 {w : am_Wd} {l3 : Int32} : am_run 230 71 [none, none, none, some (.int l3), none] [] w = some (.inl (some (.int l3)), w) := by
  refine (bu (ls'' := [none, none, none, none, none]) (st' := [.int l3]) bf230_71 bf230_72 rfl rfl).trans ?_
  exact am_e2 bf230_72 rfl (am_ge_rf w)
theorem bk230_51 {w : am_Wd} {l1 : Nat} {l3 : Int32} {l4 : Int32} : am_run 230 51 [none, some (.ref l1), none, some (.int l3), some (.int l4)] [] w = (am_x 211 [.ref l1, .int l4] w).bind fun r => bct r fun v w' => am_run 230 58 [none, some (.ref l1), none, none, some (.int l4)] (v.toList ++ [.int l3]) w' := by
  refine (bu (ls'' := [none, some (.ref l1), none, none, some (.int l4)]) (st' := [.int l3]) bf230_51 bf230_52 rfl rfl).trans ?_
  refine (bu (ls'' := [none, some (.ref l1), none, none, some (.int l4)]) (st' := [.ref l1, .int l3]) bf230_52 bf230_53 rfl rfl).trans ?_
  refine (bu (ls'' := [none, some (.ref l1), none, none, some (.int l4)]) (st' := [.int l4, .ref l1, .int l3]) bf230_53 bf230_55 rfl rfl).trans ?_
  exact bkS bf230_55 bf230_58 rfl (by decide +kernel) (Nat.le_of_ble_eq_true rfl) rfl (bhd rfl)
theorem bk230_27 {w : am_Wd} {l1 : Nat} {s0 : Int32} : am_run 230 27 [none, some (.ref l1), none, none, none] [.int s0] w = (am_x 209 [.ref l1, .int (nI 0)] w).bind fun r => bct r fun v w' => am_run 230 32 [none, none, none, none, none] (v.toList ++ [.int s0]) w' := by
  refine (bu (ls'' := [none, none, none, none, none]) (st' := [.ref l1, .int s0]) bf230_27 bf230_28 rfl rfl).trans ?_
  refine (bu (ls'' := [none, none, none, none, none]) (st' := [.int (nI 0), .ref l1, .int s0]) bf230_28 bf230_29 rfl rfl).trans ?_
  exact bkS bf230_29 bf230_32 rfl (by decide +kernel) (Nat.le_of_ble_eq_true rfl) rfl (bhd rfl)
theorem bk230_58 {w : am_Wd} {l1 : Nat} {l4 : Int32} {s0 : Nat} {s1 : Int32} : am_run 230 58 [none, some (.ref l1), none, none, some (.int l4)] [.ref s0, .int s1] w = (am_x 44 [.ref s0] w).bind fun r => bct r fun v w' => am_run 230 61 [none, some (.ref l1), none, none, some (.int l4)] (v.toList ++ [.int s1]) w' := by
  exact bkS bf230_58 bf230_61 rfl (by decide +kernel) (Nat.le_of_ble_eq_true rfl) rfl (bhd rfl)
theorem bk230_32 {w : am_Wd} {s0 : Nat} {s1 : Int32} : am_run 230 32 [none, none, none, none, none] [.ref s0, .int s1] w = (am_x 44 [.ref s0] w).bind fun r => bct r fun v w' => am_run 230 35 [none, none, none, none, none] (v.toList ++ [.int s1]) w' := by
  exact bkS bf230_32 bf230_35 rfl (by decide +kernel) (Nat.le_of_ble_eq_true rfl) rfl (bhd rfl)
theorem bk230_61 {w : am_Wd} {l1 : Nat} {l4 : Int32} {s0 : Int32} {s1 : Int32} : am_run 230 61 [none, some (.ref l1), none, none, some (.int l4)] [.int s0, .int s1] w = am_run 230 44 [none, some (.ref l1), none, some (.int (bj_max s1 s0)), some (.int (l4 + (nI 1)))] [] w := by
  refine (bu (ls'' := [none, some (.ref l1), none, none, some (.int l4)]) (st' := [.int (bj_max s1 s0)]) bf230_61 bf230_64 rfl rfl).trans ?_
  refine (bu (ls'' := [none, some (.ref l1), none, some (.int (bj_max s1 s0)), some (.int l4)]) (st' := []) bf230_64 bf230_65 rfl rfl).trans ?_
  refine (bu (ls'' := [none, some (.ref l1), none, some (.int (bj_max s1 s0)), some (.int (l4 + (nI 1)))]) (st' := []) bf230_65 bf230_68 rfl rfl).trans ?_
  refine (bu (ls'' := [none, some (.ref l1), none, some (.int (bj_max s1 s0)), some (.int (l4 + (nI 1)))]) (st' := []) bf230_68 bf230_44 rfl rfl).trans ?_
  rfl
theorem bk230_35 {w : am_Wd} {s0 : Int32} {s1 : Int32} : am_run 230 35 [none, none, none, none, none] [.int s0, .int s1] w = some (.inl (some (.int (bj_max s1 s0))), w) := by
  refine (bu (ls'' := [none, none, none, none, none]) (st' := [.int (bj_max s1 s0)]) bf230_35 bf230_38 rfl rfl).trans ?_
  exact am_e2 bf230_38 rfl (am_ge_rf w)
theorem bf231_0 : am_fetch (am_mth 231) 0 = some (.aload_n 0, 1, [], []) := by decide +kernel
theorem bf231_1 : am_fetch (am_mth 231) 1 = some (.aload_n 0, 1, [], []) := by decide +kernel
theorem bf231_2 : am_fetch (am_mth 231) 2 = some (.iload_n 1, 1, [], []) := by decide +kernel
theorem bf231_3 : am_fetch (am_mth 231) 3 = some (.invokevirtual 149, 3, [0, 99, 1, 11, 1387, 1389, 24, 48], []) := by decide +kernel
theorem bf231_6 : am_fetch (am_mth 231) 6 = some (.iconst 1, 1, [], []) := by decide +kernel
theorem bf231_7 : am_fetch (am_mth 231) 7 = some (.invokevirtual 83, 3, [0, 96, 2, 11, 1251, 1253, 18, 48], []) := by decide +kernel
theorem bf231_10 : am_fetch (am_mth 231) 10 = some (.ifCond .ne 26, 3, [], []) := by decide +kernel
theorem bf231_13 : am_fetch (am_mth 231) 13 = some (.aload_n 0, 1, [], []) := by decide +kernel
theorem bf231_14 : am_fetch (am_mth 231) 14 = some (.iload_n 2, 1, [], []) := by decide +kernel
theorem bf231_15 : am_fetch (am_mth 231) 15 = some (.iconst 0, 1, [], []) := by decide +kernel
theorem bf231_16 : am_fetch (am_mth 231) 16 = some (.bipush 7, 2, [], []) := by decide +kernel
theorem bf231_18 : am_fetch (am_mth 231) 18 = some (.invokestatic 42, 3, [0, 39, 3, 1245, 1246, 48], []) := by decide +kernel
theorem bf231_21 : am_fetch (am_mth 231) 21 = some (.ifCond .ne 7, 3, [], []) := by decide +kernel
theorem bf231_24 : am_fetch (am_mth 231) 24 = some (.iconst 1, 1, [], []) := by decide +kernel
theorem bf231_25 : am_fetch (am_mth 231) 25 = some (.goto 4, 3, [], []) := by decide +kernel
theorem bf231_28 : am_fetch (am_mth 231) 28 = some (.iconst 0, 1, [], []) := by decide +kernel
theorem bf231_29 : am_fetch (am_mth 231) 29 = some (.iconst 2, 1, [], []) := by decide +kernel
theorem bf231_30 : am_fetch (am_mth 231) 30 = some (.invokevirtual 38, 3, [0, 40, 2, 11, 1255, 1257, 19, 48], []) := by decide +kernel
theorem bf231_33 : am_fetch (am_mth 231) 33 = some (.ifCond .eq 7, 3, [], []) := by decide +kernel
theorem bf231_36 : am_fetch (am_mth 231) 36 = some (.iconst 0, 1, [], [0, 1, 2]) := by decide +kernel
theorem bf231_37 : am_fetch (am_mth 231) 37 = some (.goto 21, 3, [], [0, 1, 2]) := by decide +kernel
theorem bf231_40 : am_fetch (am_mth 231) 40 = some (.aload_n 0, 1, [], []) := by decide +kernel
theorem bf231_41 : am_fetch (am_mth 231) 41 = some (.getfield 31, 3, [0, 11, 11, 1208], [0]) := by decide +kernel
theorem bf231_44 : am_fetch (am_mth 231) 44 = some (.iload_n 1, 1, [], [0]) := by decide +kernel
theorem bf231_45 : am_fetch (am_mth 231) 45 = some (.invokevirtual 152, 3, [0, 150, 1, 3, 1391, 1392, 1393, 51], [0, 1]) := by decide +kernel
theorem bf231_48 : am_fetch (am_mth 231) 48 = some (.checkcast 72, 3, [0, 10, 1295], [0, 1]) := by decide +kernel
theorem bf231_51 : am_fetch (am_mth 231) 51 = some (.iload_n 2, 1, [], [0, 1]) := by decide +kernel
theorem bf231_52 : am_fetch (am_mth 231) 52 = some (.invokestatic 196, 3, [0, 211, 2, 1479, 1480, 48], [0, 1, 2]) := by decide +kernel
theorem bf231_55 : am_fetch (am_mth 231) 55 = some (.invokestatic 93, 3, [0, 44, 1, 1284, 1285, 48], [0, 1, 2]) := by decide +kernel
theorem bf231_58 : am_fetch (am_mth 231) 58 = some (.ireturn, 1, [0], [0, 1, 2]) := by decide +kernel
theorem bk231_0 {w : am_Wd} {l0 : Nat} {l1 : Int32} {l2 : Int32} : am_run 231 0 [some (.ref l0), some (.int l1), some (.int l2)] [] w = (am_kf w l0 11).bind fun _ => (am_x 99 [.ref l0, .int l1] w).bind fun r => bct r fun v w' => am_run 231 6 [some (.ref l0), some (.int l1), some (.int l2)] (v.toList ++ [.ref l0]) w' := by
  refine (bu (ls'' := [some (.ref l0), some (.int l1), some (.int l2)]) (st' := [.ref l0]) bf231_0 bf231_1 rfl rfl).trans ?_
  refine (bu (ls'' := [some (.ref l0), some (.int l1), some (.int l2)]) (st' := [.ref l0, .ref l0]) bf231_1 bf231_2 rfl rfl).trans ?_
  refine (bu (ls'' := [some (.ref l0), some (.int l1), some (.int l2)]) (st' := [.int l1, .ref l0, .ref l0]) bf231_2 bf231_3 rfl rfl).trans ?_
  exact bkV bf231_3 bf231_6 rfl (by decide +kernel) (Nat.le_of_ble_eq_true rfl) rfl (bhd rfl)
theorem bk231_6 {w : am_Wd} {l0 : Nat} {l1 : Int32} {l2 : Int32} {s0 : Int32} {s1 : Nat} : am_run 231 6 [some (.ref l0), some (.int l1), some (.int l2)] [.int s0, .ref s1] w = (am_kf w s1 11).bind fun _ => (am_x 96 [.ref s1, .int s0, .int (nI 1)] w).bind fun r => bct r fun v w' => am_run 231 10 [some (.ref l0), some (.int l1), some (.int l2)] (v.toList ++ []) w' := by
  refine (bu (ls'' := [some (.ref l0), some (.int l1), some (.int l2)]) (st' := [.int (nI 1), .int s0, .ref s1]) bf231_6 bf231_7 rfl rfl).trans ?_
  exact bkV bf231_7 bf231_10 rfl (by decide +kernel) (Nat.le_of_ble_eq_true rfl) rfl (bhd rfl)
theorem bk231_10 {w : am_Wd} {l0 : Nat} {l1 : Int32} {l2 : Int32} {s0 : Int32} : am_run 231 10 [some (.ref l0), some (.int l1), some (.int l2)] [.int s0] w = if ¬ s0 = nI 0 then am_run 231 36 [none, none, none] [] w else am_run 231 13 [some (.ref l0), some (.int l1), some (.int l2)] [] w := by
  exact bifc bf231_10 rfl bf231_36 bf231_13 rfl rfl rfl
theorem bk231_36 {w : am_Wd}  : am_run 231 36 [none, none, none] [] w = am_run 231 58 [none, none, none] [.int (nI 0)] w := by
  refine (bu (ls'' := [none, none, none]) (st' := [.int (nI 0)]) bf231_36 bf231_37 rfl rfl).trans ?_
  refine (bu (ls'' := [none, none, none]) (st' := [.int (nI 0)]) bf231_37 bf231_58 rfl rfl).trans ?_
  rfl
theorem bk231_13 {w : am_Wd} {l0 : Nat} {l1 : Int32} {l2 : Int32} : am_run 231 13 [some (.ref l0), some (.int l1), some (.int l2)] [] w = (am_x 39 [.int l2, .int (nI 0), .int (nI 7)] w).bind fun r => bct r fun v w' => am_run 231 21 [some (.ref l0), some (.int l1), some (.int l2)] (v.toList ++ [.ref l0]) w' := by
  refine (bu (ls'' := [some (.ref l0), some (.int l1), some (.int l2)]) (st' := [.ref l0]) bf231_13 bf231_14 rfl rfl).trans ?_
  refine (bu (ls'' := [some (.ref l0), some (.int l1), some (.int l2)]) (st' := [.int l2, .ref l0]) bf231_14 bf231_15 rfl rfl).trans ?_
  refine (bu (ls'' := [some (.ref l0), some (.int l1), some (.int l2)]) (st' := [.int (nI 0), .int l2, .ref l0]) bf231_15 bf231_16 rfl rfl).trans ?_
  refine (bu (ls'' := [some (.ref l0), some (.int l1), some (.int l2)]) (st' := [.int (nI 7), .int (nI 0), .int l2, .ref l0]) bf231_16 bf231_18 rfl rfl).trans ?_
  exact bkS bf231_18 bf231_21 rfl (by decide +kernel) (Nat.le_of_ble_eq_true rfl) rfl (bhd rfl)
theorem bk231_58 {w : am_Wd} {s0 : Int32} : am_run 231 58 [none, none, none] [.int s0] w = some (.inl (some (.int s0)), w) := by
  exact am_e2 bf231_58 rfl (am_ge_rf w)
theorem bk231_21 {w : am_Wd} {l0 : Nat} {l1 : Int32} {l2 : Int32} {s0 : Int32} {s1 : Nat} : am_run 231 21 [some (.ref l0), some (.int l1), some (.int l2)] [.int s0, .ref s1] w = if ¬ s0 = nI 0 then am_run 231 28 [some (.ref l0), some (.int l1), some (.int l2)] [.ref s1] w else am_run 231 24 [some (.ref l0), some (.int l1), some (.int l2)] [.ref s1] w := by
  exact bifc bf231_21 rfl bf231_28 bf231_24 rfl rfl rfl
theorem bk231_28 {w : am_Wd} {l0 : Nat} {l1 : Int32} {l2 : Int32} {s0 : Nat} : am_run 231 28 [some (.ref l0), some (.int l1), some (.int l2)] [.ref s0] w = am_run 231 29 [some (.ref l0), some (.int l1), some (.int l2)] [.int (nI 0), .ref s0] w := by
  refine (bu (ls'' := [some (.ref l0), some (.int l1), some (.int l2)]) (st' := [.int (nI 0), .ref s0]) bf231_28 bf231_29 rfl rfl).trans ?_
  rfl
theorem bk231_24 {w : am_Wd} {l0 : Nat} {l1 : Int32} {l2 : Int32} {s0 : Nat} : am_run 231 24 [some (.ref l0), some (.int l1), some (.int l2)] [.ref s0] w = am_run 231 29 [some (.ref l0), some (.int l1), some (.int l2)] [.int (nI 1), .ref s0] w := by
  refine (bu (ls'' := [some (.ref l0), some (.int l1), some (.int l2)]) (st' := [.int (nI 1), .ref s0]) bf231_24 bf231_25 rfl rfl).trans ?_
  refine (bu (ls'' := [some (.ref l0), some (.int l1), some (.int l2)]) (st' := [.int (nI 1), .ref s0]) bf231_25 bf231_29 rfl rfl).trans ?_
  rfl
theorem bk231_29 {w : am_Wd} {l0 : Nat} {l1 : Int32} {l2 : Int32} {s0 : Int32} {s1 : Nat} : am_run 231 29 [some (.ref l0), some (.int l1), some (.int l2)] [.int s0, .ref s1] w = (am_kf w s1 11).bind fun _ => (am_x 40 [.ref s1, .int s0, .int (nI 2)] w).bind fun r => bct r fun v w' => am_run 231 33 [some (.ref l0), some (.int l1), some (.int l2)] (v.toList ++ []) w' := by
  refine (bu (ls'' := [some (.ref l0), some (.int l1), some (.int l2)]) (st' := [.int (nI 2), .int s0, .ref s1]) bf231_29 bf231_30 rfl rfl).trans ?_
  exact bkV bf231_30 bf231_33 rfl (by decide +kernel) (Nat.le_of_ble_eq_true rfl) rfl (bhd rfl)
theorem bk231_33 {w : am_Wd} {l0 : Nat} {l1 : Int32} {l2 : Int32} {s0 : Int32} : am_run 231 33 [some (.ref l0), some (.int l1), some (.int l2)] [.int s0] w = if s0 = nI 0 then am_run 231 40 [some (.ref l0), some (.int l1), some (.int l2)] [] w else am_run 231 36 [none, none, none] [] w := by
  exact bifc bf231_33 rfl bf231_40 bf231_36 rfl rfl rfl
theorem bk231_40 {w : am_Wd} {l0 : Nat} {l1 : Int32} {l2 : Int32} : am_run 231 40 [some (.ref l0), some (.int l1), some (.int l2)] [] w = (am_gf w l0 11 11).bind fun v => am_run 231 44 [none, some (.int l1), some (.int l2)] (v :: []) w := by
  refine (bu (ls'' := [none, some (.int l1), some (.int l2)]) (st' := [.ref l0]) bf231_40 bf231_41 rfl rfl).trans ?_
  exact bh bf231_41 bf231_44 rfl (fun _ _ => am_ge_rf w) rfl
theorem bk231_44 {w : am_Wd} {l1 : Int32} {l2 : Int32} {s0 : Nat} : am_run 231 44 [none, some (.int l1), some (.int l2)] [.ref s0] w = (am_kf w s0 3).bind fun _ => (am_x 150 [.ref s0, .int l1] w).bind fun r => bct r fun v w' => am_run 231 48 [none, none, some (.int l2)] (v.toList ++ []) w' := by
  refine (bu (ls'' := [none, none, some (.int l2)]) (st' := [.int l1, .ref s0]) bf231_44 bf231_45 rfl rfl).trans ?_
  exact bkV bf231_45 bf231_48 rfl (by decide +kernel) (Nat.le_of_ble_eq_true rfl) rfl (bhd rfl)
theorem bk231_48 {w : am_Wd} {l2 : Int32} {s0 : Nat} : am_run 231 48 [none, none, some (.int l2)] [.ref s0] w = (am_kf w s0 10).bind fun _ => am_run 231 51 [none, none, some (.int l2)] [.ref s0] w := by
  exact bh bf231_48 bf231_51 rfl (fun _ _ => am_ge_rf w) rfl
theorem bk231_51 {w : am_Wd} {l2 : Int32} {s0 : Nat} : am_run 231 51 [none, none, some (.int l2)] [.ref s0] w = (am_x 211 [.ref s0, .int l2] w).bind fun r => bct r fun v w' => am_run 231 55 [none, none, none] (v.toList ++ []) w' := by
  refine (bu (ls'' := [none, none, none]) (st' := [.int l2, .ref s0]) bf231_51 bf231_52 rfl rfl).trans ?_
  exact bkS bf231_52 bf231_55 rfl (by decide +kernel) (Nat.le_of_ble_eq_true rfl) rfl (bhd rfl)
theorem bk231_55 {w : am_Wd} {s0 : Nat} : am_run 231 55 [none, none, none] [.ref s0] w = (am_x 44 [.ref s0] w).bind fun r => bct r fun v w' => am_run 231 58 [none, none, none] (v.toList ++ []) w' := by
  exact bkS bf231_55 bf231_58 rfl (by decide +kernel) (Nat.le_of_ble_eq_true rfl) rfl (bhd rfl)
theorem bf232_0 : am_fetch (am_mth 232) 0 = some (.aload_n 0, 1, [], []) := by decide +kernel
theorem bf232_1 : am_fetch (am_mth 232) 1 = some (.iload_n 1, 1, [], []) := by decide +kernel
theorem bf232_2 : am_fetch (am_mth 232) 2 = some (.invokestatic 76, 3, [0, 97, 1, 1242, 1243, 48], []) := by decide +kernel
theorem bf232_5 : am_fetch (am_mth 232) 5 = some (.iconst 1, 1, [], []) := by decide +kernel
theorem bf232_6 : am_fetch (am_mth 232) 6 = some (.invokevirtual 83, 3, [0, 96, 2, 11, 1251, 1253, 18, 48], []) := by decide +kernel
theorem bf232_9 : am_fetch (am_mth 232) 9 = some (.ifCond .ne 15, 3, [], []) := by decide +kernel
theorem bf232_12 : am_fetch (am_mth 232) 12 = some (.aload_n 0, 1, [], []) := by decide +kernel
theorem bf232_13 : am_fetch (am_mth 232) 13 = some (.iload_n 2, 1, [], []) := by decide +kernel
theorem bf232_14 : am_fetch (am_mth 232) 14 = some (.invokestatic 80, 3, [0, 98, 1, 1248, 1249, 48], []) := by decide +kernel
theorem bf232_17 : am_fetch (am_mth 232) 17 = some (.iconst 2, 1, [], []) := by decide +kernel
theorem bf232_18 : am_fetch (am_mth 232) 18 = some (.invokevirtual 38, 3, [0, 40, 2, 11, 1255, 1257, 19, 48], []) := by decide +kernel
theorem bf232_21 : am_fetch (am_mth 232) 21 = some (.ifCond .eq 7, 3, [], []) := by decide +kernel
theorem bf232_24 : am_fetch (am_mth 232) 24 = some (.iconst 0, 1, [], [0, 1, 2]) := by decide +kernel
theorem bf232_25 : am_fetch (am_mth 232) 25 = some (.goto 9, 3, [], [0, 1, 2]) := by decide +kernel
theorem bf232_28 : am_fetch (am_mth 232) 28 = some (.aload_n 0, 1, [], []) := by decide +kernel
theorem bf232_29 : am_fetch (am_mth 232) 29 = some (.iload_n 1, 1, [], [0]) := by decide +kernel
theorem bf232_30 : am_fetch (am_mth 232) 30 = some (.iload_n 2, 1, [], [0, 1]) := by decide +kernel
theorem bf232_31 : am_fetch (am_mth 232) 31 = some (.invokevirtual 193, 3, [0, 210, 2, 11, 1475, 1477, 34, 48], [0, 1, 2]) := by decide +kernel
theorem bf232_34 : am_fetch (am_mth 232) 34 = some (.ireturn, 1, [0], [0, 1, 2]) := by decide +kernel
theorem bk232_0 {w : am_Wd} {l0 : Nat} {l1 : Int32} {l2 : Int32} : am_run 232 0 [some (.ref l0), some (.int l1), some (.int l2)] [] w = (am_x 97 [.int l1] w).bind fun r => bct r fun v w' => am_run 232 5 [some (.ref l0), some (.int l1), some (.int l2)] (v.toList ++ [.ref l0]) w' := by
  refine (bu (ls'' := [some (.ref l0), some (.int l1), some (.int l2)]) (st' := [.ref l0]) bf232_0 bf232_1 rfl rfl).trans ?_
  refine (bu (ls'' := [some (.ref l0), some (.int l1), some (.int l2)]) (st' := [.int l1, .ref l0]) bf232_1 bf232_2 rfl rfl).trans ?_
  exact bkS bf232_2 bf232_5 rfl (by decide +kernel) (Nat.le_of_ble_eq_true rfl) rfl (bhd rfl)
theorem bk232_5 {w : am_Wd} {l0 : Nat} {l1 : Int32} {l2 : Int32} {s0 : Int32} {s1 : Nat} : am_run 232 5 [some (.ref l0), some (.int l1), some (.int l2)] [.int s0, .ref s1] w = (am_kf w s1 11).bind fun _ => (am_x 96 [.ref s1, .int s0, .int (nI 1)] w).bind fun r => bct r fun v w' => am_run 232 9 [some (.ref l0), some (.int l1), some (.int l2)] (v.toList ++ []) w' := by
  refine (bu (ls'' := [some (.ref l0), some (.int l1), some (.int l2)]) (st' := [.int (nI 1), .int s0, .ref s1]) bf232_5 bf232_6 rfl rfl).trans ?_
  exact bkV bf232_6 bf232_9 rfl (by decide +kernel) (Nat.le_of_ble_eq_true rfl) rfl (bhd rfl)
theorem bk232_9 {w : am_Wd} {l0 : Nat} {l1 : Int32} {l2 : Int32} {s0 : Int32} : am_run 232 9 [some (.ref l0), some (.int l1), some (.int l2)] [.int s0] w = if ¬ s0 = nI 0 then am_run 232 24 [none, none, none] [] w else am_run 232 12 [some (.ref l0), some (.int l1), some (.int l2)] [] w := by
  exact bifc bf232_9 rfl bf232_24 bf232_12 rfl rfl rfl
theorem bk232_24 {w : am_Wd}  : am_run 232 24 [none, none, none] [] w = am_run 232 34 [none, none, none] [.int (nI 0)] w := by
  refine (bu (ls'' := [none, none, none]) (st' := [.int (nI 0)]) bf232_24 bf232_25 rfl rfl).trans ?_
  refine (bu (ls'' := [none, none, none]) (st' := [.int (nI 0)]) bf232_25 bf232_34 rfl rfl).trans ?_
  rfl
theorem bk232_12 {w : am_Wd} {l0 : Nat} {l1 : Int32} {l2 : Int32} : am_run 232 12 [some (.ref l0), some (.int l1), some (.int l2)] [] w = (am_x 98 [.int l2] w).bind fun r => bct r fun v w' => am_run 232 17 [some (.ref l0), some (.int l1), some (.int l2)] (v.toList ++ [.ref l0]) w' := by
  refine (bu (ls'' := [some (.ref l0), some (.int l1), some (.int l2)]) (st' := [.ref l0]) bf232_12 bf232_13 rfl rfl).trans ?_
  refine (bu (ls'' := [some (.ref l0), some (.int l1), some (.int l2)]) (st' := [.int l2, .ref l0]) bf232_13 bf232_14 rfl rfl).trans ?_
  exact bkS bf232_14 bf232_17 rfl (by decide +kernel) (Nat.le_of_ble_eq_true rfl) rfl (bhd rfl)
theorem bk232_34 {w : am_Wd} {s0 : Int32} : am_run 232 34 [none, none, none] [.int s0] w = some (.inl (some (.int s0)), w) := by
  exact am_e2 bf232_34 rfl (am_ge_rf w)
theorem bk232_17 {w : am_Wd} {l0 : Nat} {l1 : Int32} {l2 : Int32} {s0 : Int32} {s1 : Nat} : am_run 232 17 [some (.ref l0), some (.int l1), some (.int l2)] [.int s0, .ref s1] w = (am_kf w s1 11).bind fun _ => (am_x 40 [.ref s1, .int s0, .int (nI 2)] w).bind fun r => bct r fun v w' => am_run 232 21 [some (.ref l0), some (.int l1), some (.int l2)] (v.toList ++ []) w' := by
  refine (bu (ls'' := [some (.ref l0), some (.int l1), some (.int l2)]) (st' := [.int (nI 2), .int s0, .ref s1]) bf232_17 bf232_18 rfl rfl).trans ?_
  exact bkV bf232_18 bf232_21 rfl (by decide +kernel) (Nat.le_of_ble_eq_true rfl) rfl (bhd rfl)
theorem bk232_21 {w : am_Wd} {l0 : Nat} {l1 : Int32} {l2 : Int32} {s0 : Int32} : am_run 232 21 [some (.ref l0), some (.int l1), some (.int l2)] [.int s0] w = if s0 = nI 0 then am_run 232 28 [some (.ref l0), some (.int l1), some (.int l2)] [] w else am_run 232 24 [none, none, none] [] w := by
  exact bifc bf232_21 rfl bf232_28 bf232_24 rfl rfl rfl
theorem bk232_28 {w : am_Wd} {l0 : Nat} {l1 : Int32} {l2 : Int32} : am_run 232 28 [some (.ref l0), some (.int l1), some (.int l2)] [] w = (am_kf w l0 11).bind fun _ => (am_x 210 [.ref l0, .int l1, .int l2] w).bind fun r => bct r fun v w' => am_run 232 34 [none, none, none] (v.toList ++ []) w' := by
  refine (bu (ls'' := [none, some (.int l1), some (.int l2)]) (st' := [.ref l0]) bf232_28 bf232_29 rfl rfl).trans ?_
  refine (bu (ls'' := [none, none, some (.int l2)]) (st' := [.int l1, .ref l0]) bf232_29 bf232_30 rfl rfl).trans ?_
  refine (bu (ls'' := [none, none, none]) (st' := [.int l2, .int l1, .ref l0]) bf232_30 bf232_31 rfl rfl).trans ?_
  exact bkV bf232_31 bf232_34 rfl (by decide +kernel) (Nat.le_of_ble_eq_true rfl) rfl (bhd rfl)
theorem bf233_0 : am_fetch (am_mth 233) 0 = some (.aload_n 2, 1, [], [3]) := by decide +kernel
theorem bf233_1 : am_fetch (am_mth 233) 1 = some (.aload_n 0, 1, [], [2, 3]) := by decide +kernel
theorem bf233_2 : am_fetch (am_mth 233) 2 = some (.iload_n 1, 1, [], [0, 2, 3]) := by decide +kernel
theorem bf233_3 : am_fetch (am_mth 233) 3 = some (.invokevirtual 23, 3, [0, 200, 1, 8, 513, 514, 515, 46], [0, 1, 2, 3]) := by decide +kernel
theorem bf233_6 : am_fetch (am_mth 233) 6 = some (.i2l, 1, [], [0, 1, 2, 3]) := by decide +kernel
theorem bf233_7 : am_fetch (am_mth 233) 7 = some (.putfield 13, 3, [1, 9, 0, 485], [0, 1, 2, 3]) := by decide +kernel
theorem bf233_10 : am_fetch (am_mth 233) 10 = some (.goto 6, 3, [], [0, 1, 2, 3]) := by decide +kernel
theorem bf233_13 : am_fetch (am_mth 233) 13 = some (.astore_n 3, 1, [], [0, 1, 2, 3]) := by decide +kernel
theorem bf233_14 : am_fetch (am_mth 233) 14 = some (.iconst 1, 1, [], [0, 1, 2, 3]) := by decide +kernel
theorem bf233_15 : am_fetch (am_mth 233) 15 = some (.ireturn, 1, [0], [0, 1, 2, 3]) := by decide +kernel
theorem bf233_16 : am_fetch (am_mth 233) 16 = some (.iconst 0, 1, [], [0, 1, 2, 3]) := by decide +kernel
theorem bf233_17 : am_fetch (am_mth 233) 17 = some (.ireturn, 1, [0], [0, 1, 2, 3]) := by decide +kernel
theorem bk233_0 {w : am_Wd} {l0 : Nat} {l1 : Int32} {l2 : Nat} : am_run 233 0 [some (.ref l0), some (.int l1), some (.ref l2), none] [] w = (am_kf w l0 8).bind fun _ => (am_x 200 [.ref l0, .int l1] w).bind fun r => am_af 233 3 r (fun v w' => am_run 233 6 [none, none, none, none] (v.toList ++ [.ref l2]) w') (fun h w' => am_run 233 h (am_nrm 233 h [none, none, none, none]) [] w') := by
  refine (bu (ls'' := [some (.ref l0), some (.int l1), none, none]) (st' := [.ref l2]) bf233_0 bf233_1 rfl rfl).trans ?_
  refine (bu (ls'' := [none, some (.int l1), none, none]) (st' := [.ref l0, .ref l2]) bf233_1 bf233_2 rfl rfl).trans ?_
  refine (bu (ls'' := [none, none, none, none]) (st' := [.int l1, .ref l0, .ref l2]) bf233_2 bf233_3 rfl rfl).trans ?_
  exact bkHV bf233_3 bf233_6 rfl (by decide +kernel) (Nat.le_of_ble_eq_true rfl) rfl
theorem bk233_6 {w : am_Wd} {s0 : Int32} {s1 : Nat} : am_run 233 6 [none, none, none, none] [.int s0, .ref s1] w = (am_pf w s1 9 0 (.long (Int32.toInt64 s0))).bind fun w' => am_run 233 10 [none, none, none, none] [] w' := by
  refine (bu (ls'' := [none, none, none, none]) (st' := [.long (Int32.toInt64 s0), .ref s1]) bf233_6 bf233_7 rfl rfl).trans ?_
  exact bh bf233_7 bf233_10 rfl (bge_pf) rfl
theorem bk233_14 {w : am_Wd}  : am_run 233 14 [none, none, none, none] [] w = some (.inl (some (.int (nI 1))), w) := by
  refine (bu (ls'' := [none, none, none, none]) (st' := [.int (nI 1)]) bf233_14 bf233_15 rfl rfl).trans ?_
  exact am_e2 bf233_15 rfl (am_ge_rf w)
theorem bk233_10 {w : am_Wd}  : am_run 233 10 [none, none, none, none] [] w = some (.inl (some (.int (nI 0))), w) := by
  refine (bu (ls'' := [none, none, none, none]) (st' := []) bf233_10 bf233_16 rfl rfl).trans ?_
  refine (bu (ls'' := [none, none, none, none]) (st' := [.int (nI 0)]) bf233_16 bf233_17 rfl rfl).trans ?_
  exact am_e2 bf233_17 rfl (am_ge_rf w)
theorem bf234_0 : am_fetch (am_mth 234) 0 = some (.aload_n 3, 1, [], [4]) := by decide +kernel
theorem bf234_1 : am_fetch (am_mth 234) 1 = some (.aload_n 0, 1, [], [3, 4]) := by decide +kernel
theorem bf234_2 : am_fetch (am_mth 234) 2 = some (.iload_n 1, 1, [], [0, 3, 4]) := by decide +kernel
theorem bf234_3 : am_fetch (am_mth 234) 3 = some (.iload_n 2, 1, [], [0, 1, 3, 4]) := by decide +kernel
theorem bf234_4 : am_fetch (am_mth 234) 4 = some (.invokevirtual 68, 3, [0, 201, 2, 8, 822, 349, 350, 46], [0, 1, 2, 3, 4]) := by decide +kernel
theorem bf234_7 : am_fetch (am_mth 234) 7 = some (.i2l, 1, [], [0, 1, 2, 3, 4]) := by decide +kernel
theorem bf234_8 : am_fetch (am_mth 234) 8 = some (.putfield 13, 3, [1, 9, 0, 485], [0, 1, 2, 3, 4]) := by decide +kernel
theorem bf234_11 : am_fetch (am_mth 234) 11 = some (.goto 11, 3, [], [0, 1, 2, 3, 4]) := by decide +kernel
theorem bf234_14 : am_fetch (am_mth 234) 14 = some (.astore 4, 2, [], [0, 1, 2, 3, 4]) := by decide +kernel
theorem bf234_16 : am_fetch (am_mth 234) 16 = some (.iconst 1, 1, [], [0, 1, 2, 3, 4]) := by decide +kernel
theorem bf234_17 : am_fetch (am_mth 234) 17 = some (.ireturn, 1, [0], [0, 1, 2, 3, 4]) := by decide +kernel
theorem bf234_18 : am_fetch (am_mth 234) 18 = some (.astore 4, 2, [], [0, 1, 2, 3, 4]) := by decide +kernel
theorem bf234_20 : am_fetch (am_mth 234) 20 = some (.iconst 2, 1, [], [0, 1, 2, 3, 4]) := by decide +kernel
theorem bf234_21 : am_fetch (am_mth 234) 21 = some (.ireturn, 1, [0], [0, 1, 2, 3, 4]) := by decide +kernel
theorem bf234_22 : am_fetch (am_mth 234) 22 = some (.iconst 0, 1, [], [0, 1, 2, 3, 4]) := by decide +kernel
theorem bf234_23 : am_fetch (am_mth 234) 23 = some (.ireturn, 1, [0], [0, 1, 2, 3, 4]) := by decide +kernel
theorem bk234_0 {w : am_Wd} {l0 : Nat} {l1 : Int32} {l2 : Int32} {l3 : Nat} : am_run 234 0 [some (.ref l0), some (.int l1), some (.int l2), some (.ref l3), none] [] w = (am_kf w l0 8).bind fun _ => (am_x 201 [.ref l0, .int l1, .int l2] w).bind fun r => am_af 234 4 r (fun v w' => am_run 234 7 [none, none, none, none, none] (v.toList ++ [.ref l3]) w') (fun h w' => am_run 234 h (am_nrm 234 h [none, none, none, none, none]) [] w') := by
  refine (bu (ls'' := [some (.ref l0), some (.int l1), some (.int l2), none, none]) (st' := [.ref l3]) bf234_0 bf234_1 rfl rfl).trans ?_
  refine (bu (ls'' := [none, some (.int l1), some (.int l2), none, none]) (st' := [.ref l0, .ref l3]) bf234_1 bf234_2 rfl rfl).trans ?_
  refine (bu (ls'' := [none, none, some (.int l2), none, none]) (st' := [.int l1, .ref l0, .ref l3]) bf234_2 bf234_3 rfl rfl).trans ?_
  refine (bu (ls'' := [none, none, none, none, none]) (st' := [.int l2, .int l1, .ref l0, .ref l3]) bf234_3 bf234_4 rfl rfl).trans ?_
  exact bkHV bf234_4 bf234_7 rfl (by decide +kernel) (Nat.le_of_ble_eq_true rfl) rfl
theorem bk234_7 {w : am_Wd} {s0 : Int32} {s1 : Nat} : am_run 234 7 [none, none, none, none, none] [.int s0, .ref s1] w = (am_pf w s1 9 0 (.long (Int32.toInt64 s0))).bind fun w' => am_run 234 11 [none, none, none, none, none] [] w' := by
  refine (bu (ls'' := [none, none, none, none, none]) (st' := [.long (Int32.toInt64 s0), .ref s1]) bf234_7 bf234_8 rfl rfl).trans ?_
  exact bh bf234_8 bf234_11 rfl (bge_pf) rfl
theorem bk234_16 {w : am_Wd}  : am_run 234 16 [none, none, none, none, none] [] w = some (.inl (some (.int (nI 1))), w) := by
  refine (bu (ls'' := [none, none, none, none, none]) (st' := [.int (nI 1)]) bf234_16 bf234_17 rfl rfl).trans ?_
  exact am_e2 bf234_17 rfl (am_ge_rf w)
theorem bk234_20 {w : am_Wd}  : am_run 234 20 [none, none, none, none, none] [] w = some (.inl (some (.int (nI 2))), w) := by
  refine (bu (ls'' := [none, none, none, none, none]) (st' := [.int (nI 2)]) bf234_20 bf234_21 rfl rfl).trans ?_
  exact am_e2 bf234_21 rfl (am_ge_rf w)
theorem bk234_11 {w : am_Wd}  : am_run 234 11 [none, none, none, none, none] [] w = some (.inl (some (.int (nI 0))), w) := by
  refine (bu (ls'' := [none, none, none, none, none]) (st' := []) bf234_11 bf234_22 rfl rfl).trans ?_
  refine (bu (ls'' := [none, none, none, none, none]) (st' := [.int (nI 0)]) bf234_22 bf234_23 rfl rfl).trans ?_
  exact am_e2 bf234_23 rfl (am_ge_rf w)
theorem bf235_0 : am_fetch (am_mth 235) 0 = some (.aload_n 3, 1, [], [4]) := by decide +kernel
theorem bf235_1 : am_fetch (am_mth 235) 1 = some (.aload_n 0, 1, [], [3, 4]) := by decide +kernel
theorem bf235_2 : am_fetch (am_mth 235) 2 = some (.iload_n 1, 1, [], [0, 3, 4]) := by decide +kernel
theorem bf235_3 : am_fetch (am_mth 235) 3 = some (.iload_n 2, 1, [], [0, 1, 3, 4]) := by decide +kernel
theorem bf235_4 : am_fetch (am_mth 235) 4 = some (.invokevirtual 107, 3, [0, 202, 2, 8, 1139, 422, 423, 46], [0, 1, 2, 3, 4]) := by decide +kernel
theorem bf235_7 : am_fetch (am_mth 235) 7 = some (.i2l, 1, [], [0, 1, 2, 3, 4]) := by decide +kernel
theorem bf235_8 : am_fetch (am_mth 235) 8 = some (.putfield 13, 3, [1, 9, 0, 485], [0, 1, 2, 3, 4]) := by decide +kernel
theorem bf235_11 : am_fetch (am_mth 235) 11 = some (.goto 11, 3, [], [0, 1, 2, 3, 4]) := by decide +kernel
theorem bf235_14 : am_fetch (am_mth 235) 14 = some (.astore 4, 2, [], [0, 1, 2, 3, 4]) := by decide +kernel
theorem bf235_16 : am_fetch (am_mth 235) 16 = some (.iconst 1, 1, [], [0, 1, 2, 3, 4]) := by decide +kernel
theorem bf235_17 : am_fetch (am_mth 235) 17 = some (.ireturn, 1, [0], [0, 1, 2, 3, 4]) := by decide +kernel
theorem bf235_18 : am_fetch (am_mth 235) 18 = some (.astore 4, 2, [], [0, 1, 2, 3, 4]) := by decide +kernel
theorem bf235_20 : am_fetch (am_mth 235) 20 = some (.iconst 2, 1, [], [0, 1, 2, 3, 4]) := by decide +kernel
theorem bf235_21 : am_fetch (am_mth 235) 21 = some (.ireturn, 1, [0], [0, 1, 2, 3, 4]) := by decide +kernel
theorem bf235_22 : am_fetch (am_mth 235) 22 = some (.iconst 0, 1, [], [0, 1, 2, 3, 4]) := by decide +kernel
theorem bf235_23 : am_fetch (am_mth 235) 23 = some (.ireturn, 1, [0], [0, 1, 2, 3, 4]) := by decide +kernel
theorem bk235_0 {w : am_Wd} {l0 : Nat} {l1 : Int32} {l2 : Int32} {l3 : Nat} : am_run 235 0 [some (.ref l0), some (.int l1), some (.int l2), some (.ref l3), none] [] w = (am_kf w l0 8).bind fun _ => (am_x 202 [.ref l0, .int l1, .int l2] w).bind fun r => am_af 235 4 r (fun v w' => am_run 235 7 [none, none, none, none, none] (v.toList ++ [.ref l3]) w') (fun h w' => am_run 235 h (am_nrm 235 h [none, none, none, none, none]) [] w') := by
  refine (bu (ls'' := [some (.ref l0), some (.int l1), some (.int l2), none, none]) (st' := [.ref l3]) bf235_0 bf235_1 rfl rfl).trans ?_
  refine (bu (ls'' := [none, some (.int l1), some (.int l2), none, none]) (st' := [.ref l0, .ref l3]) bf235_1 bf235_2 rfl rfl).trans ?_
  refine (bu (ls'' := [none, none, some (.int l2), none, none]) (st' := [.int l1, .ref l0, .ref l3]) bf235_2 bf235_3 rfl rfl).trans ?_
  refine (bu (ls'' := [none, none, none, none, none]) (st' := [.int l2, .int l1, .ref l0, .ref l3]) bf235_3 bf235_4 rfl rfl).trans ?_
  exact bkHV bf235_4 bf235_7 rfl (by decide +kernel) (Nat.le_of_ble_eq_true rfl) rfl
theorem bk235_7 {w : am_Wd} {s0 : Int32} {s1 : Nat} : am_run 235 7 [none, none, none, none, none] [.int s0, .ref s1] w = (am_pf w s1 9 0 (.long (Int32.toInt64 s0))).bind fun w' => am_run 235 11 [none, none, none, none, none] [] w' := by
  refine (bu (ls'' := [none, none, none, none, none]) (st' := [.long (Int32.toInt64 s0), .ref s1]) bf235_7 bf235_8 rfl rfl).trans ?_
  exact bh bf235_8 bf235_11 rfl (bge_pf) rfl
theorem bk235_16 {w : am_Wd}  : am_run 235 16 [none, none, none, none, none] [] w = some (.inl (some (.int (nI 1))), w) := by
  refine (bu (ls'' := [none, none, none, none, none]) (st' := [.int (nI 1)]) bf235_16 bf235_17 rfl rfl).trans ?_
  exact am_e2 bf235_17 rfl (am_ge_rf w)
theorem bk235_20 {w : am_Wd}  : am_run 235 20 [none, none, none, none, none] [] w = some (.inl (some (.int (nI 2))), w) := by
  refine (bu (ls'' := [none, none, none, none, none]) (st' := [.int (nI 2)]) bf235_20 bf235_21 rfl rfl).trans ?_
  exact am_e2 bf235_21 rfl (am_ge_rf w)
theorem bk235_11 {w : am_Wd}  : am_run 235 11 [none, none, none, none, none] [] w = some (.inl (some (.int (nI 0))), w) := by
  refine (bu (ls'' := [none, none, none, none, none]) (st' := []) bf235_11 bf235_22 rfl rfl).trans ?_
  refine (bu (ls'' := [none, none, none, none, none]) (st' := [.int (nI 0)]) bf235_22 bf235_23 rfl rfl).trans ?_
  exact am_e2 bf235_23 rfl (am_ge_rf w)
theorem bf236_0 : am_fetch (am_mth 236) 0 = some (.aload_n 2, 1, [], [3]) := by decide +kernel
theorem bf236_1 : am_fetch (am_mth 236) 1 = some (.aload_n 0, 1, [], [2, 3]) := by decide +kernel
theorem bf236_2 : am_fetch (am_mth 236) 2 = some (.iload_n 1, 1, [], [0, 2, 3]) := by decide +kernel
theorem bf236_3 : am_fetch (am_mth 236) 3 = some (.invokevirtual 110, 3, [0, 203, 1, 8, 1143, 460, 461, 46], [0, 1, 2, 3]) := by decide +kernel
theorem bf236_6 : am_fetch (am_mth 236) 6 = some (.i2l, 1, [], [0, 1, 2, 3]) := by decide +kernel
theorem bf236_7 : am_fetch (am_mth 236) 7 = some (.putfield 13, 3, [1, 9, 0, 485], [0, 1, 2, 3]) := by decide +kernel
theorem bf236_10 : am_fetch (am_mth 236) 10 = some (.goto 6, 3, [], [0, 1, 2, 3]) := by decide +kernel
theorem bf236_13 : am_fetch (am_mth 236) 13 = some (.astore_n 3, 1, [], [0, 1, 2, 3]) := by decide +kernel
theorem bf236_14 : am_fetch (am_mth 236) 14 = some (.iconst 1, 1, [], [0, 1, 2, 3]) := by decide +kernel
theorem bf236_15 : am_fetch (am_mth 236) 15 = some (.ireturn, 1, [0], [0, 1, 2, 3]) := by decide +kernel
theorem bf236_16 : am_fetch (am_mth 236) 16 = some (.iconst 0, 1, [], [0, 1, 2, 3]) := by decide +kernel
theorem bf236_17 : am_fetch (am_mth 236) 17 = some (.ireturn, 1, [0], [0, 1, 2, 3]) := by decide +kernel
theorem bk236_0 {w : am_Wd} {l0 : Nat} {l1 : Int32} {l2 : Nat} : am_run 236 0 [some (.ref l0), some (.int l1), some (.ref l2), none] [] w = (am_kf w l0 8).bind fun _ => (am_x 203 [.ref l0, .int l1] w).bind fun r => am_af 236 3 r (fun v w' => am_run 236 6 [none, none, none, none] (v.toList ++ [.ref l2]) w') (fun h w' => am_run 236 h (am_nrm 236 h [none, none, none, none]) [] w') := by
  refine (bu (ls'' := [some (.ref l0), some (.int l1), none, none]) (st' := [.ref l2]) bf236_0 bf236_1 rfl rfl).trans ?_
  refine (bu (ls'' := [none, some (.int l1), none, none]) (st' := [.ref l0, .ref l2]) bf236_1 bf236_2 rfl rfl).trans ?_
  refine (bu (ls'' := [none, none, none, none]) (st' := [.int l1, .ref l0, .ref l2]) bf236_2 bf236_3 rfl rfl).trans ?_
  exact bkHV bf236_3 bf236_6 rfl (by decide +kernel) (Nat.le_of_ble_eq_true rfl) rfl
theorem bk236_6 {w : am_Wd} {s0 : Int32} {s1 : Nat} : am_run 236 6 [none, none, none, none] [.int s0, .ref s1] w = (am_pf w s1 9 0 (.long (Int32.toInt64 s0))).bind fun w' => am_run 236 10 [none, none, none, none] [] w' := by
  refine (bu (ls'' := [none, none, none, none]) (st' := [.long (Int32.toInt64 s0), .ref s1]) bf236_6 bf236_7 rfl rfl).trans ?_
  exact bh bf236_7 bf236_10 rfl (bge_pf) rfl
theorem bk236_14 {w : am_Wd}  : am_run 236 14 [none, none, none, none] [] w = some (.inl (some (.int (nI 1))), w) := by
  refine (bu (ls'' := [none, none, none, none]) (st' := [.int (nI 1)]) bf236_14 bf236_15 rfl rfl).trans ?_
  exact am_e2 bf236_15 rfl (am_ge_rf w)
theorem bk236_10 {w : am_Wd}  : am_run 236 10 [none, none, none, none] [] w = some (.inl (some (.int (nI 0))), w) := by
  refine (bu (ls'' := [none, none, none, none]) (st' := []) bf236_10 bf236_16 rfl rfl).trans ?_
  refine (bu (ls'' := [none, none, none, none]) (st' := [.int (nI 0)]) bf236_16 bf236_17 rfl rfl).trans ?_
  exact am_e2 bf236_17 rfl (am_ge_rf w)
theorem bf237_0 : am_fetch (am_mth 237) 0 = some (.aload_n 3, 1, [], [4]) := by decide +kernel
theorem bf237_1 : am_fetch (am_mth 237) 1 = some (.aload_n 0, 1, [], [3, 4]) := by decide +kernel
theorem bf237_2 : am_fetch (am_mth 237) 2 = some (.iload_n 1, 1, [], [0, 3, 4]) := by decide +kernel
theorem bf237_3 : am_fetch (am_mth 237) 3 = some (.iload_n 2, 1, [], [0, 1, 3, 4]) := by decide +kernel
theorem bf237_4 : am_fetch (am_mth 237) 4 = some (.invokevirtual 116, 3, [0, 204, 2, 8, 1155, 1156, 1157, 46], [0, 1, 2, 3, 4]) := by decide +kernel
theorem bf237_7 : am_fetch (am_mth 237) 7 = some (.i2l, 1, [], [0, 1, 2, 3, 4]) := by decide +kernel
theorem bf237_8 : am_fetch (am_mth 237) 8 = some (.putfield 13, 3, [1, 9, 0, 485], [0, 1, 2, 3, 4]) := by decide +kernel
theorem bf237_11 : am_fetch (am_mth 237) 11 = some (.goto 11, 3, [], [0, 1, 2, 3, 4]) := by decide +kernel
theorem bf237_14 : am_fetch (am_mth 237) 14 = some (.astore 4, 2, [], [0, 1, 2, 3, 4]) := by decide +kernel
theorem bf237_16 : am_fetch (am_mth 237) 16 = some (.iconst 1, 1, [], [0, 1, 2, 3, 4]) := by decide +kernel
theorem bf237_17 : am_fetch (am_mth 237) 17 = some (.ireturn, 1, [0], [0, 1, 2, 3, 4]) := by decide +kernel
theorem bf237_18 : am_fetch (am_mth 237) 18 = some (.astore 4, 2, [], [0, 1, 2, 3, 4]) := by decide +kernel
theorem bf237_20 : am_fetch (am_mth 237) 20 = some (.iconst 2, 1, [], [0, 1, 2, 3, 4]) := by decide +kernel
theorem bf237_21 : am_fetch (am_mth 237) 21 = some (.ireturn, 1, [0], [0, 1, 2, 3, 4]) := by decide +kernel
theorem bf237_22 : am_fetch (am_mth 237) 22 = some (.iconst 0, 1, [], [0, 1, 2, 3, 4]) := by decide +kernel
theorem bf237_23 : am_fetch (am_mth 237) 23 = some (.ireturn, 1, [0], [0, 1, 2, 3, 4]) := by decide +kernel
theorem bk237_0 {w : am_Wd} {l0 : Nat} {l1 : Int32} {l2 : Int32} {l3 : Nat} : am_run 237 0 [some (.ref l0), some (.int l1), some (.int l2), some (.ref l3), none] [] w = (am_kf w l0 8).bind fun _ => (am_x 204 [.ref l0, .int l1, .int l2] w).bind fun r => am_af 237 4 r (fun v w' => am_run 237 7 [none, none, none, none, none] (v.toList ++ [.ref l3]) w') (fun h w' => am_run 237 h (am_nrm 237 h [none, none, none, none, none]) [] w') := by
  refine (bu (ls'' := [some (.ref l0), some (.int l1), some (.int l2), none, none]) (st' := [.ref l3]) bf237_0 bf237_1 rfl rfl).trans ?_
  refine (bu (ls'' := [none, some (.int l1), some (.int l2), none, none]) (st' := [.ref l0, .ref l3]) bf237_1 bf237_2 rfl rfl).trans ?_
  refine (bu (ls'' := [none, none, some (.int l2), none, none]) (st' := [.int l1, .ref l0, .ref l3]) bf237_2 bf237_3 rfl rfl).trans ?_
  refine (bu (ls'' := [none, none, none, none, none]) (st' := [.int l2, .int l1, .ref l0, .ref l3]) bf237_3 bf237_4 rfl rfl).trans ?_
  exact bkHV bf237_4 bf237_7 rfl (by decide +kernel) (Nat.le_of_ble_eq_true rfl) rfl
theorem bk237_7 {w : am_Wd} {s0 : Int32} {s1 : Nat} : am_run 237 7 [none, none, none, none, none] [.int s0, .ref s1] w = (am_pf w s1 9 0 (.long (Int32.toInt64 s0))).bind fun w' => am_run 237 11 [none, none, none, none, none] [] w' := by
  refine (bu (ls'' := [none, none, none, none, none]) (st' := [.long (Int32.toInt64 s0), .ref s1]) bf237_7 bf237_8 rfl rfl).trans ?_
  exact bh bf237_8 bf237_11 rfl (bge_pf) rfl
theorem bk237_16 {w : am_Wd}  : am_run 237 16 [none, none, none, none, none] [] w = some (.inl (some (.int (nI 1))), w) := by
  refine (bu (ls'' := [none, none, none, none, none]) (st' := [.int (nI 1)]) bf237_16 bf237_17 rfl rfl).trans ?_
  exact am_e2 bf237_17 rfl (am_ge_rf w)
theorem bk237_20 {w : am_Wd}  : am_run 237 20 [none, none, none, none, none] [] w = some (.inl (some (.int (nI 2))), w) := by
  refine (bu (ls'' := [none, none, none, none, none]) (st' := [.int (nI 2)]) bf237_20 bf237_21 rfl rfl).trans ?_
  exact am_e2 bf237_21 rfl (am_ge_rf w)
theorem bk237_11 {w : am_Wd}  : am_run 237 11 [none, none, none, none, none] [] w = some (.inl (some (.int (nI 0))), w) := by
  refine (bu (ls'' := [none, none, none, none, none]) (st' := []) bf237_11 bf237_22 rfl rfl).trans ?_
  refine (bu (ls'' := [none, none, none, none, none]) (st' := [.int (nI 0)]) bf237_22 bf237_23 rfl rfl).trans ?_
  exact am_e2 bf237_23 rfl (am_ge_rf w)
theorem bf239_0 : am_fetch (am_mth 239) 0 = some (.aload_n 0, 1, [], [3, 4]) := by decide +kernel
theorem bf239_1 : am_fetch (am_mth 239) 1 = some (.iload_n 1, 1, [], [3, 4]) := by decide +kernel
theorem bf239_2 : am_fetch (am_mth 239) 2 = some (.invokevirtual 89, 3, [0, 31, 1, 8, 352, 354, 4, 46], [1, 3, 4]) := by decide +kernel
theorem bf239_5 : am_fetch (am_mth 239) 5 = some (.astore_n 3, 1, [], [1, 3, 4]) := by decide +kernel
theorem bf239_6 : am_fetch (am_mth 239) 6 = some (.aload_n 0, 1, [], [1, 4]) := by decide +kernel
theorem bf239_7 : am_fetch (am_mth 239) 7 = some (.aload_n 3, 1, [], [1, 4]) := by decide +kernel
theorem bf239_8 : am_fetch (am_mth 239) 8 = some (.iload_n 2, 1, [], [1, 4]) := by decide +kernel
theorem bf239_9 : am_fetch (am_mth 239) 9 = some (.invokevirtual 93, 3, [0, 225, 2, 8, 653, 655, 9, 46], [1, 2, 4]) := by decide +kernel
theorem bf239_12 : am_fetch (am_mth 239) 12 = some (.aload_n 0, 1, [], [1, 2, 4]) := by decide +kernel
theorem bf239_13 : am_fetch (am_mth 239) 13 = some (.aload_n 3, 1, [], [1, 2, 4]) := by decide +kernel
theorem bf239_14 : am_fetch (am_mth 239) 14 = some (.invokevirtual 97, 3, [0, 171, 1, 8, 660, 662, 10, 46], [1, 2, 4]) := by decide +kernel
theorem bf239_17 : am_fetch (am_mth 239) 17 = some (.ifCond .eq 13, 3, [], [1, 2, 4]) := by decide +kernel
theorem bf239_20 : am_fetch (am_mth 239) 20 = some (.new 79, 3, [1, 2, 545, 62, 666, 101, 83], [0, 1, 2, 3, 4]) := by decide +kernel
theorem bf239_23 : am_fetch (am_mth 239) 23 = some (.dup, 1, [], [0, 1, 2, 3, 4]) := by decide +kernel
theorem bf239_24 : am_fetch (am_mth 239) 24 = some (.ldc 101, 2, [1, 11, 666], [0, 1, 2, 3, 4]) := by decide +kernel
theorem bf239_26 : am_fetch (am_mth 239) 26 = some (.invokespecial 83, 3, [], [0, 1, 2, 3, 4]) := by decide +kernel
theorem bf239_29 : am_fetch (am_mth 239) 29 = some (.athrow, 1, [], [0, 1, 2, 3, 4]) := by decide +kernel
theorem bf239_30 : am_fetch (am_mth 239) 30 = some (.aload_n 0, 1, [], [1, 2, 4]) := by decide +kernel
theorem bf239_31 : am_fetch (am_mth 239) 31 = some (.getfield 10, 3, [0, 8, 0, 111], [1, 2, 4]) := by decide +kernel
theorem bf239_34 : am_fetch (am_mth 239) 34 = some (.aload_n 3, 1, [], [1, 2, 4]) := by decide +kernel
theorem bf239_35 : am_fetch (am_mth 239) 35 = some (.invokevirtual 103, 3, [0, 17, 0, 6, 667, 668, 669, 63], [1, 2, 4]) := by decide +kernel
theorem bf239_38 : am_fetch (am_mth 239) 38 = some (.aload_n 3, 1, [], [1, 2, 4]) := by decide +kernel
theorem bf239_39 : am_fetch (am_mth 239) 39 = some (.invokevirtual 107, 3, [0, 18, 0, 6, 671, 672, 673, 63], [1, 2, 4]) := by decide +kernel
theorem bf239_42 : am_fetch (am_mth 239) 42 = some (.aload_n 0, 1, [], [1, 2, 4]) := by decide +kernel
theorem bf239_43 : am_fetch (am_mth 239) 43 = some (.invokevirtual 110, 3, [0, 33, 0, 8, 165, 167, 1, 46], [1, 2, 4]) := by decide +kernel
theorem bf239_46 : am_fetch (am_mth 239) 46 = some (.invokevirtual 113, 3, [0, 126, 3, 5, 338, 184, 185, 47], [1, 2, 4]) := by decide +kernel
theorem bf239_49 : am_fetch (am_mth 239) 49 = some (.istore 4, 2, [], [1, 2, 4]) := by decide +kernel
theorem bf239_51 : am_fetch (am_mth 239) 51 = some (.iload 4, 2, [], [1, 2]) := by decide +kernel
theorem bf239_53 : am_fetch (am_mth 239) 53 = some (.ifCond .eq 16, 3, [], [1, 2]) := by decide +kernel
theorem bf239_56 : am_fetch (am_mth 239) 56 = some (.aload_n 3, 1, [], [1, 2]) := by decide +kernel
theorem bf239_57 : am_fetch (am_mth 239) 57 = some (.dup, 1, [], [1, 2]) := by decide +kernel
theorem bf239_58 : am_fetch (am_mth 239) 58 = some (.getfield 117, 3, [1, 6, 7, 623], [1, 2]) := by decide +kernel
theorem bf239_61 : am_fetch (am_mth 239) 61 = some (.iconst 1, 1, [], [1, 2]) := by decide +kernel
theorem bf239_62 : am_fetch (am_mth 239) 62 = some (.iadd, 1, [], [1, 2]) := by decide +kernel
theorem bf239_63 : am_fetch (am_mth 239) 63 = some (.putfield 117, 3, [1, 6, 7, 623], [1, 2]) := by decide +kernel
theorem bf239_66 : am_fetch (am_mth 239) 66 = some (.goto 8, 3, [], [1, 2]) := by decide +kernel
theorem bf239_69 : am_fetch (am_mth 239) 69 = some (.aload_n 0, 1, [], [1, 2]) := by decide +kernel
theorem bf239_70 : am_fetch (am_mth 239) 70 = some (.aload_n 3, 1, [], [1, 2]) := by decide +kernel
theorem bf239_71 : am_fetch (am_mth 239) 71 = some (.invokevirtual 120, 3, [0, 141, 1, 8, 675, 677, 11, 46], [1, 2]) := by decide +kernel
theorem bf239_74 : am_fetch (am_mth 239) 74 = some (.aload_n 3, 1, [], [1, 2]) := by decide +kernel
theorem bf239_75 : am_fetch (am_mth 239) 75 = some (.iload 4, 2, [], [1, 2]) := by decide +kernel
theorem bf239_77 : am_fetch (am_mth 239) 77 = some (.invokevirtual 124, 3, [0, 160, 1, 6, 691, 692, 693, 63], [1, 2]) := by decide +kernel
theorem bf239_80 : am_fetch (am_mth 239) 80 = some (.aload_n 0, 1, [], [1, 2]) := by decide +kernel
theorem bf239_81 : am_fetch (am_mth 239) 81 = some (.aload_n 3, 1, [], [0, 1, 2]) := by decide +kernel
theorem bf239_82 : am_fetch (am_mth 239) 82 = some (.invokevirtual 127, 3, [0, 32, 1, 8, 712, 714, 15, 46], [0, 1, 2, 3]) := by decide +kernel
theorem bf239_85 : am_fetch (am_mth 239) 85 = some (.iload 4, 2, [], [0, 1, 2, 3]) := by decide +kernel
theorem bf239_87 : am_fetch (am_mth 239) 87 = some (.ireturn, 1, [1], [0, 1, 2, 3, 4]) := by decide +kernel
theorem bk239_0 {w : am_Wd} {l0 : Nat} {l1 : Int32} {l2 : Int32} : am_run 239 0 [some (.ref l0), some (.int l1), some (.int l2), none, none] [] w = (am_kf w l0 8).bind fun _ => (am_x 31 [.ref l0, .int l1] w).bind fun r => bct r fun v w' => am_run 239 5 [some (.ref l0), none, some (.int l2), none, none] (v.toList ++ []) w' := by
  refine (bu (ls'' := [some (.ref l0), some (.int l1), some (.int l2), none, none]) (st' := [.ref l0]) bf239_0 bf239_1 rfl rfl).trans ?_
  refine (bu (ls'' := [some (.ref l0), none, some (.int l2), none, none]) (st' := [.int l1, .ref l0]) bf239_1 bf239_2 rfl rfl).trans ?_
  exact bkV bf239_2 bf239_5 rfl (by decide +kernel) (Nat.le_of_ble_eq_true rfl) rfl (bhd rfl)
theorem bk239_5 {w : am_Wd} {l0 : Nat} {l2 : Int32} {s0 : Nat} : am_run 239 5 [some (.ref l0), none, some (.int l2), none, none] [.ref s0] w = (am_kf w l0 8).bind fun _ => (am_x 225 [.ref l0, .ref s0, .int l2] w).bind fun r => bct r fun v w' => am_run 239 12 [some (.ref l0), none, none, some (.ref s0), none] (v.toList ++ []) w' := by
  refine (bu (ls'' := [some (.ref l0), none, some (.int l2), some (.ref s0), none]) (st' := []) bf239_5 bf239_6 rfl rfl).trans ?_
  refine (bu (ls'' := [some (.ref l0), none, some (.int l2), some (.ref s0), none]) (st' := [.ref l0]) bf239_6 bf239_7 rfl rfl).trans ?_
  refine (bu (ls'' := [some (.ref l0), none, some (.int l2), some (.ref s0), none]) (st' := [.ref s0, .ref l0]) bf239_7 bf239_8 rfl rfl).trans ?_
  refine (bu (ls'' := [some (.ref l0), none, none, some (.ref s0), none]) (st' := [.int l2, .ref s0, .ref l0]) bf239_8 bf239_9 rfl rfl).trans ?_
  exact bkV bf239_9 bf239_12 rfl (by decide +kernel) (Nat.le_of_ble_eq_true rfl) rfl (bhd rfl)
theorem bk239_12 {w : am_Wd} {l0 : Nat} {l3 : Nat} : am_run 239 12 [some (.ref l0), none, none, some (.ref l3), none] [] w = (am_kf w l0 8).bind fun _ => (am_x 171 [.ref l0, .ref l3] w).bind fun r => bct r fun v w' => am_run 239 17 [some (.ref l0), none, none, some (.ref l3), none] (v.toList ++ []) w' := by
  refine (bu (ls'' := [some (.ref l0), none, none, some (.ref l3), none]) (st' := [.ref l0]) bf239_12 bf239_13 rfl rfl).trans ?_
  refine (bu (ls'' := [some (.ref l0), none, none, some (.ref l3), none]) (st' := [.ref l3, .ref l0]) bf239_13 bf239_14 rfl rfl).trans ?_
  exact bkV bf239_14 bf239_17 rfl (by decide +kernel) (Nat.le_of_ble_eq_true rfl) rfl (bhd rfl)
theorem bk239_17 {w : am_Wd} {l0 : Nat} {l3 : Nat} {s0 : Int32} : am_run 239 17 [some (.ref l0), none, none, some (.ref l3), none] [.int s0] w = if s0 = nI 0 then am_run 239 30 [some (.ref l0), none, none, some (.ref l3), none] [] w else am_run 239 20 [none, none, none, none, none] [] w := by
  exact bifc bf239_17 rfl bf239_30 bf239_20 rfl rfl rfl
theorem bk239_30 {w : am_Wd} {l0 : Nat} {l3 : Nat} : am_run 239 30 [some (.ref l0), none, none, some (.ref l3), none] [] w = (am_gf w l0 8 0).bind fun v => am_run 239 34 [some (.ref l0), none, none, some (.ref l3), none] (v :: []) w := by
  refine (bu (ls'' := [some (.ref l0), none, none, some (.ref l3), none]) (st' := [.ref l0]) bf239_30 bf239_31 rfl rfl).trans ?_
  exact bh bf239_31 bf239_34 rfl (fun _ _ => am_ge_rf w) rfl
theorem bk239_20 {w : am_Wd}  : am_run 239 20 [none, none, none, none, none] [] w = some (.inr (am_xn 2), am_jk w 1 6) := by
  exact am_e2 bf239_20 rfl (am_ge_jk _ _ _)
theorem bk239_34 {w : am_Wd} {l0 : Nat} {l3 : Nat} {s0 : Nat} : am_run 239 34 [some (.ref l0), none, none, some (.ref l3), none] [.ref s0] w = (am_kf w l3 6).bind fun _ => (am_x 17 [.ref l3] w).bind fun r => bct r fun v w' => am_run 239 38 [some (.ref l0), none, none, some (.ref l3), none] (v.toList ++ [.ref s0]) w' := by
  refine (bu (ls'' := [some (.ref l0), none, none, some (.ref l3), none]) (st' := [.ref l3, .ref s0]) bf239_34 bf239_35 rfl rfl).trans ?_
  exact bkV bf239_35 bf239_38 rfl (by decide +kernel) (Nat.le_of_ble_eq_true rfl) rfl (bhd rfl)
theorem bk239_38 {w : am_Wd} {l0 : Nat} {l3 : Nat} {s0 : Int32} {s1 : Nat} : am_run 239 38 [some (.ref l0), none, none, some (.ref l3), none] [.int s0, .ref s1] w = (am_kf w l3 6).bind fun _ => (am_x 18 [.ref l3] w).bind fun r => bct r fun v w' => am_run 239 42 [some (.ref l0), none, none, some (.ref l3), none] (v.toList ++ [.int s0, .ref s1]) w' := by
  refine (bu (ls'' := [some (.ref l0), none, none, some (.ref l3), none]) (st' := [.ref l3, .int s0, .ref s1]) bf239_38 bf239_39 rfl rfl).trans ?_
  exact bkV bf239_39 bf239_42 rfl (by decide +kernel) (Nat.le_of_ble_eq_true rfl) rfl (bhd rfl)
theorem bk239_42 {w : am_Wd} {l0 : Nat} {l3 : Nat} {s0 : Int32} {s1 : Int32} {s2 : Nat} : am_run 239 42 [some (.ref l0), none, none, some (.ref l3), none] [.int s0, .int s1, .ref s2] w = (am_kf w l0 8).bind fun _ => (am_x 33 [.ref l0] w).bind fun r => bct r fun v w' => am_run 239 46 [some (.ref l0), none, none, some (.ref l3), none] (v.toList ++ [.int s0, .int s1, .ref s2]) w' := by
  refine (bu (ls'' := [some (.ref l0), none, none, some (.ref l3), none]) (st' := [.ref l0, .int s0, .int s1, .ref s2]) bf239_42 bf239_43 rfl rfl).trans ?_
  exact bkV bf239_43 bf239_46 rfl (by decide +kernel) (Nat.le_of_ble_eq_true rfl) rfl (bhd rfl)
theorem bk239_46 {w : am_Wd} {l0 : Nat} {l3 : Nat} {s0 : Int32} {s1 : Int32} {s2 : Int32} {s3 : Nat} : am_run 239 46 [some (.ref l0), none, none, some (.ref l3), none] [.int s0, .int s1, .int s2, .ref s3] w = (am_kf w s3 5).bind fun _ => (am_x 126 [.ref s3, .int s2, .int s1, .int s0] w).bind fun r => bct r fun v w' => am_run 239 49 [some (.ref l0), none, none, some (.ref l3), none] (v.toList ++ []) w' := by
  exact bkV bf239_46 bf239_49 rfl (by decide +kernel) (Nat.le_of_ble_eq_true rfl) rfl (bhd rfl)
theorem bk239_49 {w : am_Wd} {l0 : Nat} {l3 : Nat} {s0 : Int32} : am_run 239 49 [some (.ref l0), none, none, some (.ref l3), none] [.int s0] w = if s0 = nI 0 then am_run 239 69 [some (.ref l0), none, none, some (.ref l3), some (.int s0)] [] w else am_run 239 56 [some (.ref l0), none, none, some (.ref l3), some (.int s0)] [] w := by
  refine (bu (ls'' := [some (.ref l0), none, none, some (.ref l3), some (.int s0)]) (st' := []) bf239_49 bf239_51 rfl rfl).trans ?_
  refine (bu (ls'' := [some (.ref l0), none, none, some (.ref l3), some (.int s0)]) (st' := [.int s0]) bf239_51 bf239_53 rfl rfl).trans ?_
  exact bifc bf239_53 rfl bf239_69 bf239_56 rfl rfl rfl
theorem bk239_69 {w : am_Wd} {l0 : Nat} {l3 : Nat} {l4 : Int32} : am_run 239 69 [some (.ref l0), none, none, some (.ref l3), some (.int l4)] [] w = (am_kf w l0 8).bind fun _ => (am_x 141 [.ref l0, .ref l3] w).bind fun r => bct r fun v w' => am_run 239 74 [some (.ref l0), none, none, some (.ref l3), some (.int l4)] (v.toList ++ []) w' := by
  refine (bu (ls'' := [some (.ref l0), none, none, some (.ref l3), some (.int l4)]) (st' := [.ref l0]) bf239_69 bf239_70 rfl rfl).trans ?_
  refine (bu (ls'' := [some (.ref l0), none, none, some (.ref l3), some (.int l4)]) (st' := [.ref l3, .ref l0]) bf239_70 bf239_71 rfl rfl).trans ?_
  exact bkV bf239_71 bf239_74 rfl (by decide +kernel) (Nat.le_of_ble_eq_true rfl) rfl (bhd rfl)
theorem bk239_56 {w : am_Wd} {l0 : Nat} {l3 : Nat} {l4 : Int32} : am_run 239 56 [some (.ref l0), none, none, some (.ref l3), some (.int l4)] [] w = (am_gf w l3 6 7).bind fun v => am_run 239 61 [some (.ref l0), none, none, some (.ref l3), some (.int l4)] (v :: [.ref l3]) w := by
  refine (bu (ls'' := [some (.ref l0), none, none, some (.ref l3), some (.int l4)]) (st' := [.ref l3]) bf239_56 bf239_57 rfl rfl).trans ?_
  refine (bu (ls'' := [some (.ref l0), none, none, some (.ref l3), some (.int l4)]) (st' := [.ref l3, .ref l3]) bf239_57 bf239_58 rfl rfl).trans ?_
  exact bh bf239_58 bf239_61 rfl (fun _ _ => am_ge_rf w) rfl
theorem bk239_74 {w : am_Wd} {l0 : Nat} {l3 : Nat} {l4 : Int32} : am_run 239 74 [some (.ref l0), none, none, some (.ref l3), some (.int l4)] [] w = (am_kf w l3 6).bind fun _ => (am_x 160 [.ref l3, .int l4] w).bind fun r => bct r fun v w' => am_run 239 80 [some (.ref l0), none, none, some (.ref l3), some (.int l4)] (v.toList ++ []) w' := by
  refine (bu (ls'' := [some (.ref l0), none, none, some (.ref l3), some (.int l4)]) (st' := [.ref l3]) bf239_74 bf239_75 rfl rfl).trans ?_
  refine (bu (ls'' := [some (.ref l0), none, none, some (.ref l3), some (.int l4)]) (st' := [.int l4, .ref l3]) bf239_75 bf239_77 rfl rfl).trans ?_
  exact bkV bf239_77 bf239_80 rfl (by decide +kernel) (Nat.le_of_ble_eq_true rfl) rfl (bhd rfl)
theorem bk239_61 {w : am_Wd} {l0 : Nat} {l3 : Nat} {l4 : Int32} {s0 : Int32} {s1 : Nat} : am_run 239 61 [some (.ref l0), none, none, some (.ref l3), some (.int l4)] [.int s0, .ref s1] w = (am_pf w s1 6 7 (.int (s0 + (nI 1)))).bind fun w' => am_run 239 66 [some (.ref l0), none, none, some (.ref l3), some (.int l4)] [] w' := by
  refine (bu (ls'' := [some (.ref l0), none, none, some (.ref l3), some (.int l4)]) (st' := [.int (nI 1), .int s0, .ref s1]) bf239_61 bf239_62 rfl rfl).trans ?_
  refine (bu (ls'' := [some (.ref l0), none, none, some (.ref l3), some (.int l4)]) (st' := [.int (s0 + (nI 1)), .ref s1]) bf239_62 bf239_63 rfl rfl).trans ?_
  exact bh bf239_63 bf239_66 rfl (bge_pf) rfl
theorem bk239_80 {w : am_Wd} {l0 : Nat} {l3 : Nat} {l4 : Int32} : am_run 239 80 [some (.ref l0), none, none, some (.ref l3), some (.int l4)] [] w = (am_kf w l0 8).bind fun _ => (am_x 32 [.ref l0, .ref l3] w).bind fun r => bct r fun v w' => am_run 239 85 [none, none, none, none, some (.int l4)] (v.toList ++ []) w' := by
  refine (bu (ls'' := [none, none, none, some (.ref l3), some (.int l4)]) (st' := [.ref l0]) bf239_80 bf239_81 rfl rfl).trans ?_
  refine (bu (ls'' := [none, none, none, none, some (.int l4)]) (st' := [.ref l3, .ref l0]) bf239_81 bf239_82 rfl rfl).trans ?_
  exact bkV bf239_82 bf239_85 rfl (by decide +kernel) (Nat.le_of_ble_eq_true rfl) rfl (bhd rfl)
theorem bk239_66 {w : am_Wd} {l0 : Nat} {l3 : Nat} {l4 : Int32} : am_run 239 66 [some (.ref l0), none, none, some (.ref l3), some (.int l4)] [] w = am_run 239 74 [some (.ref l0), none, none, some (.ref l3), some (.int l4)] [] w := by
  refine (bu (ls'' := [some (.ref l0), none, none, some (.ref l3), some (.int l4)]) (st' := []) bf239_66 bf239_74 rfl rfl).trans ?_
  rfl
theorem bk239_85 {w : am_Wd} {l4 : Int32} (hb : am_ok (am_rt 1) (.int l4) = true) : am_run 239 85 [none, none, none, none, some (.int l4)] [] w = some (.inl (some (.int l4)), w) := by
  refine (bu (ls'' := [none, none, none, none, none]) (st' := [.int l4]) bf239_85 bf239_87 rfl rfl).trans ?_
  exact am_e2 bf239_87 (by unfold am_stp; exact if_pos ⟨by decide, hb⟩) (am_ge_rf w)
theorem bf240_0 : am_fetch (am_mth 240) 0 = some (.aload_n 0, 1, [], [4]) := by decide +kernel
theorem bf240_1 : am_fetch (am_mth 240) 1 = some (.iload_n 1, 1, [], [4]) := by decide +kernel
theorem bf240_2 : am_fetch (am_mth 240) 2 = some (.invokevirtual 89, 3, [0, 31, 1, 8, 352, 354, 4, 46], [1, 4]) := by decide +kernel
theorem bf240_5 : am_fetch (am_mth 240) 5 = some (.astore 4, 2, [], [1, 4]) := by decide +kernel
theorem bf240_7 : am_fetch (am_mth 240) 7 = some (.aload_n 0, 1, [], [1]) := by decide +kernel
theorem bf240_8 : am_fetch (am_mth 240) 8 = some (.aload 4, 2, [], [1]) := by decide +kernel
theorem bf240_10 : am_fetch (am_mth 240) 10 = some (.iload_n 3, 1, [], [1]) := by decide +kernel
theorem bf240_11 : am_fetch (am_mth 240) 11 = some (.invokevirtual 93, 3, [0, 225, 2, 8, 653, 655, 9, 46], [1, 3]) := by decide +kernel
theorem bf240_14 : am_fetch (am_mth 240) 14 = some (.aload 4, 2, [], [1, 3]) := by decide +kernel
theorem bf240_16 : am_fetch (am_mth 240) 16 = some (.iload_n 2, 1, [], [1, 3]) := by decide +kernel
theorem bf240_17 : am_fetch (am_mth 240) 17 = some (.invokevirtual 130, 3, [0, 79, 1, 6, 723, 724, 725, 63], [1, 2, 3]) := by decide +kernel
theorem bf240_20 : am_fetch (am_mth 240) 20 = some (.aload_n 0, 1, [], [1, 2, 3]) := by decide +kernel
theorem bf240_21 : am_fetch (am_mth 240) 21 = some (.aload 4, 2, [], [0, 1, 2, 3]) := by decide +kernel
theorem bf240_23 : am_fetch (am_mth 240) 23 = some (.invokevirtual 127, 3, [0, 32, 1, 8, 712, 714, 15, 46], [0, 1, 2, 3]) := by decide +kernel
theorem bf240_26 : am_fetch (am_mth 240) 26 = some (.aload 4, 2, [], [0, 1, 2, 3]) := by decide +kernel
theorem bf240_28 : am_fetch (am_mth 240) 28 = some (.getfield 133, 3, [1, 6, 2, 615], [0, 1, 2, 3, 4]) := by decide +kernel
theorem bf240_31 : am_fetch (am_mth 240) 31 = some (.invokevirtual 137, 3, [0, 72, 0, 4, 735, 152, 153, 65], [0, 1, 2, 3, 4]) := by decide +kernel
theorem bf240_34 : am_fetch (am_mth 240) 34 = some (.ireturn, 1, [0], [0, 1, 2, 3, 4]) := by decide +kernel
theorem bk240_0 {w : am_Wd} {l0 : Nat} {l1 : Int32} {l2 : Int32} {l3 : Int32} : am_run 240 0 [some (.ref l0), some (.int l1), some (.int l2), some (.int l3), none] [] w = (am_kf w l0 8).bind fun _ => (am_x 31 [.ref l0, .int l1] w).bind fun r => bct r fun v w' => am_run 240 5 [some (.ref l0), none, some (.int l2), some (.int l3), none] (v.toList ++ []) w' := by
  refine (bu (ls'' := [some (.ref l0), some (.int l1), some (.int l2), some (.int l3), none]) (st' := [.ref l0]) bf240_0 bf240_1 rfl rfl).trans ?_
  refine (bu (ls'' := [some (.ref l0), none, some (.int l2), some (.int l3), none]) (st' := [.int l1, .ref l0]) bf240_1 bf240_2 rfl rfl).trans ?_
  exact bkV bf240_2 bf240_5 rfl (by decide +kernel) (Nat.le_of_ble_eq_true rfl) rfl (bhd rfl)
theorem bk240_5 {w : am_Wd} {l0 : Nat} {l2 : Int32} {l3 : Int32} {s0 : Nat} : am_run 240 5 [some (.ref l0), none, some (.int l2), some (.int l3), none] [.ref s0] w = (am_kf w l0 8).bind fun _ => (am_x 225 [.ref l0, .ref s0, .int l3] w).bind fun r => bct r fun v w' => am_run 240 14 [some (.ref l0), none, some (.int l2), none, some (.ref s0)] (v.toList ++ []) w' := by
  refine (bu (ls'' := [some (.ref l0), none, some (.int l2), some (.int l3), some (.ref s0)]) (st' := []) bf240_5 bf240_7 rfl rfl).trans ?_
  refine (bu (ls'' := [some (.ref l0), none, some (.int l2), some (.int l3), some (.ref s0)]) (st' := [.ref l0]) bf240_7 bf240_8 rfl rfl).trans ?_
  refine (bu (ls'' := [some (.ref l0), none, some (.int l2), some (.int l3), some (.ref s0)]) (st' := [.ref s0, .ref l0]) bf240_8 bf240_10 rfl rfl).trans ?_
  refine (bu (ls'' := [some (.ref l0), none, some (.int l2), none, some (.ref s0)]) (st' := [.int l3, .ref s0, .ref l0]) bf240_10 bf240_11 rfl rfl).trans ?_
  exact bkV bf240_11 bf240_14 rfl (by decide +kernel) (Nat.le_of_ble_eq_true rfl) rfl (bhd rfl)
theorem bk240_14 {w : am_Wd} {l0 : Nat} {l2 : Int32} {l4 : Nat} : am_run 240 14 [some (.ref l0), none, some (.int l2), none, some (.ref l4)] [] w = (am_kf w l4 6).bind fun _ => (am_x 79 [.ref l4, .int l2] w).bind fun r => bct r fun v w' => am_run 240 20 [some (.ref l0), none, none, none, some (.ref l4)] (v.toList ++ []) w' := by
  refine (bu (ls'' := [some (.ref l0), none, some (.int l2), none, some (.ref l4)]) (st' := [.ref l4]) bf240_14 bf240_16 rfl rfl).trans ?_
  refine (bu (ls'' := [some (.ref l0), none, none, none, some (.ref l4)]) (st' := [.int l2, .ref l4]) bf240_16 bf240_17 rfl rfl).trans ?_
  exact bkV bf240_17 bf240_20 rfl (by decide +kernel) (Nat.le_of_ble_eq_true rfl) rfl (bhd rfl)
theorem bk240_20 {w : am_Wd} {l0 : Nat} {l4 : Nat} : am_run 240 20 [some (.ref l0), none, none, none, some (.ref l4)] [] w = (am_kf w l0 8).bind fun _ => (am_x 32 [.ref l0, .ref l4] w).bind fun r => bct r fun v w' => am_run 240 26 [none, none, none, none, some (.ref l4)] (v.toList ++ []) w' := by
  refine (bu (ls'' := [none, none, none, none, some (.ref l4)]) (st' := [.ref l0]) bf240_20 bf240_21 rfl rfl).trans ?_
  refine (bu (ls'' := [none, none, none, none, some (.ref l4)]) (st' := [.ref l4, .ref l0]) bf240_21 bf240_23 rfl rfl).trans ?_
  exact bkV bf240_23 bf240_26 rfl (by decide +kernel) (Nat.le_of_ble_eq_true rfl) rfl (bhd rfl)
theorem bk240_26 {w : am_Wd} {l4 : Nat} : am_run 240 26 [none, none, none, none, some (.ref l4)] [] w = (am_gf w l4 6 2).bind fun v => am_run 240 31 [none, none, none, none, none] (v :: []) w := by
  refine (bu (ls'' := [none, none, none, none, none]) (st' := [.ref l4]) bf240_26 bf240_28 rfl rfl).trans ?_
  exact bh bf240_28 bf240_31 rfl (fun _ _ => am_ge_rf w) rfl
theorem bk240_31 {w : am_Wd} {s0 : Nat} : am_run 240 31 [none, none, none, none, none] [.ref s0] w = (am_kf w s0 4).bind fun _ => (am_x 72 [.ref s0] w).bind fun r => bct r fun v w' => am_run 240 34 [none, none, none, none, none] (v.toList ++ []) w' := by
  exact bkV bf240_31 bf240_34 rfl (by decide +kernel) (Nat.le_of_ble_eq_true rfl) rfl (bhd rfl)
theorem bk240_34 {w : am_Wd} {s0 : Int32} : am_run 240 34 [none, none, none, none, none] [.int s0] w = some (.inl (some (.int s0)), w) := by
  exact am_e2 bf240_34 rfl (am_ge_rf w)
theorem bf241_0 : am_fetch (am_mth 241) 0 = some (.aload_n 0, 1, [], [3, 4]) := by decide +kernel
theorem bf241_1 : am_fetch (am_mth 241) 1 = some (.iload_n 1, 1, [], [3, 4]) := by decide +kernel
theorem bf241_2 : am_fetch (am_mth 241) 2 = some (.invokevirtual 89, 3, [0, 31, 1, 8, 352, 354, 4, 46], [1, 3, 4]) := by decide +kernel
theorem bf241_5 : am_fetch (am_mth 241) 5 = some (.astore_n 3, 1, [], [1, 3, 4]) := by decide +kernel
theorem bf241_6 : am_fetch (am_mth 241) 6 = some (.aload_n 0, 1, [], [1, 4]) := by decide +kernel
theorem bf241_7 : am_fetch (am_mth 241) 7 = some (.aload_n 3, 1, [], [1, 4]) := by decide +kernel
theorem bf241_8 : am_fetch (am_mth 241) 8 = some (.iload_n 2, 1, [], [1, 4]) := by decide +kernel
theorem bf241_9 : am_fetch (am_mth 241) 9 = some (.invokevirtual 93, 3, [0, 225, 2, 8, 653, 655, 9, 46], [1, 2, 4]) := by decide +kernel
theorem bf241_12 : am_fetch (am_mth 241) 12 = some (.aload_n 0, 1, [], [1, 2, 4]) := by decide +kernel
theorem bf241_13 : am_fetch (am_mth 241) 13 = some (.getfield 10, 3, [0, 8, 0, 111], [1, 2, 4]) := by decide +kernel
theorem bf241_16 : am_fetch (am_mth 241) 16 = some (.aload_n 3, 1, [], [1, 2, 4]) := by decide +kernel
theorem bf241_17 : am_fetch (am_mth 241) 17 = some (.invokevirtual 103, 3, [0, 17, 0, 6, 667, 668, 669, 63], [1, 2, 4]) := by decide +kernel
theorem bf241_20 : am_fetch (am_mth 241) 20 = some (.aload_n 3, 1, [], [1, 2, 4]) := by decide +kernel
theorem bf241_21 : am_fetch (am_mth 241) 21 = some (.invokevirtual 107, 3, [0, 18, 0, 6, 671, 672, 673, 63], [1, 2, 4]) := by decide +kernel
theorem bf241_24 : am_fetch (am_mth 241) 24 = some (.aload_n 0, 1, [], [1, 2, 4]) := by decide +kernel
theorem bf241_25 : am_fetch (am_mth 241) 25 = some (.invokevirtual 110, 3, [0, 33, 0, 8, 165, 167, 1, 46], [1, 2, 4]) := by decide +kernel
theorem bf241_28 : am_fetch (am_mth 241) 28 = some (.invokevirtual 142, 3, [0, 158, 3, 5, 743, 744, 745, 47], [1, 2, 4]) := by decide +kernel
theorem bf241_31 : am_fetch (am_mth 241) 31 = some (.istore 4, 2, [], [1, 2, 4]) := by decide +kernel
theorem bf241_33 : am_fetch (am_mth 241) 33 = some (.aload_n 3, 1, [], [1, 2]) := by decide +kernel
theorem bf241_34 : am_fetch (am_mth 241) 34 = some (.iload 4, 2, [], [1, 2]) := by decide +kernel
theorem bf241_36 : am_fetch (am_mth 241) 36 = some (.invokevirtual 146, 3, [0, 161, 1, 6, 748, 749, 750, 63], [1, 2]) := by decide +kernel
theorem bf241_39 : am_fetch (am_mth 241) 39 = some (.aload_n 0, 1, [], [1, 2]) := by decide +kernel
theorem bf241_40 : am_fetch (am_mth 241) 40 = some (.aload_n 3, 1, [], [0, 1, 2]) := by decide +kernel
theorem bf241_41 : am_fetch (am_mth 241) 41 = some (.invokevirtual 127, 3, [0, 32, 1, 8, 712, 714, 15, 46], [0, 1, 2, 3]) := by decide +kernel
theorem bf241_44 : am_fetch (am_mth 241) 44 = some (.iload 4, 2, [], [0, 1, 2, 3]) := by decide +kernel
theorem bf241_46 : am_fetch (am_mth 241) 46 = some (.ireturn, 1, [0], [0, 1, 2, 3, 4]) := by decide +kernel
theorem bk241_0 {w : am_Wd} {l0 : Nat} {l1 : Int32} {l2 : Int32} : am_run 241 0 [some (.ref l0), some (.int l1), some (.int l2), none, none] [] w = (am_kf w l0 8).bind fun _ => (am_x 31 [.ref l0, .int l1] w).bind fun r => bct r fun v w' => am_run 241 5 [some (.ref l0), none, some (.int l2), none, none] (v.toList ++ []) w' := by
  refine (bu (ls'' := [some (.ref l0), some (.int l1), some (.int l2), none, none]) (st' := [.ref l0]) bf241_0 bf241_1 rfl rfl).trans ?_
  refine (bu (ls'' := [some (.ref l0), none, some (.int l2), none, none]) (st' := [.int l1, .ref l0]) bf241_1 bf241_2 rfl rfl).trans ?_
  exact bkV bf241_2 bf241_5 rfl (by decide +kernel) (Nat.le_of_ble_eq_true rfl) rfl (bhd rfl)
theorem bk241_5 {w : am_Wd} {l0 : Nat} {l2 : Int32} {s0 : Nat} : am_run 241 5 [some (.ref l0), none, some (.int l2), none, none] [.ref s0] w = (am_kf w l0 8).bind fun _ => (am_x 225 [.ref l0, .ref s0, .int l2] w).bind fun r => bct r fun v w' => am_run 241 12 [some (.ref l0), none, none, some (.ref s0), none] (v.toList ++ []) w' := by
  refine (bu (ls'' := [some (.ref l0), none, some (.int l2), some (.ref s0), none]) (st' := []) bf241_5 bf241_6 rfl rfl).trans ?_
  refine (bu (ls'' := [some (.ref l0), none, some (.int l2), some (.ref s0), none]) (st' := [.ref l0]) bf241_6 bf241_7 rfl rfl).trans ?_
  refine (bu (ls'' := [some (.ref l0), none, some (.int l2), some (.ref s0), none]) (st' := [.ref s0, .ref l0]) bf241_7 bf241_8 rfl rfl).trans ?_
  refine (bu (ls'' := [some (.ref l0), none, none, some (.ref s0), none]) (st' := [.int l2, .ref s0, .ref l0]) bf241_8 bf241_9 rfl rfl).trans ?_
  exact bkV bf241_9 bf241_12 rfl (by decide +kernel) (Nat.le_of_ble_eq_true rfl) rfl (bhd rfl)
theorem bk241_12 {w : am_Wd} {l0 : Nat} {l3 : Nat} : am_run 241 12 [some (.ref l0), none, none, some (.ref l3), none] [] w = (am_gf w l0 8 0).bind fun v => am_run 241 16 [some (.ref l0), none, none, some (.ref l3), none] (v :: []) w := by
  refine (bu (ls'' := [some (.ref l0), none, none, some (.ref l3), none]) (st' := [.ref l0]) bf241_12 bf241_13 rfl rfl).trans ?_
  exact bh bf241_13 bf241_16 rfl (fun _ _ => am_ge_rf w) rfl
theorem bk241_16 {w : am_Wd} {l0 : Nat} {l3 : Nat} {s0 : Nat} : am_run 241 16 [some (.ref l0), none, none, some (.ref l3), none] [.ref s0] w = (am_kf w l3 6).bind fun _ => (am_x 17 [.ref l3] w).bind fun r => bct r fun v w' => am_run 241 20 [some (.ref l0), none, none, some (.ref l3), none] (v.toList ++ [.ref s0]) w' := by
  refine (bu (ls'' := [some (.ref l0), none, none, some (.ref l3), none]) (st' := [.ref l3, .ref s0]) bf241_16 bf241_17 rfl rfl).trans ?_
  exact bkV bf241_17 bf241_20 rfl (by decide +kernel) (Nat.le_of_ble_eq_true rfl) rfl (bhd rfl)
theorem bk241_20 {w : am_Wd} {l0 : Nat} {l3 : Nat} {s0 : Int32} {s1 : Nat} : am_run 241 20 [some (.ref l0), none, none, some (.ref l3), none] [.int s0, .ref s1] w = (am_kf w l3 6).bind fun _ => (am_x 18 [.ref l3] w).bind fun r => bct r fun v w' => am_run 241 24 [some (.ref l0), none, none, some (.ref l3), none] (v.toList ++ [.int s0, .ref s1]) w' := by
  refine (bu (ls'' := [some (.ref l0), none, none, some (.ref l3), none]) (st' := [.ref l3, .int s0, .ref s1]) bf241_20 bf241_21 rfl rfl).trans ?_
  exact bkV bf241_21 bf241_24 rfl (by decide +kernel) (Nat.le_of_ble_eq_true rfl) rfl (bhd rfl)
theorem bk241_24 {w : am_Wd} {l0 : Nat} {l3 : Nat} {s0 : Int32} {s1 : Int32} {s2 : Nat} : am_run 241 24 [some (.ref l0), none, none, some (.ref l3), none] [.int s0, .int s1, .ref s2] w = (am_kf w l0 8).bind fun _ => (am_x 33 [.ref l0] w).bind fun r => bct r fun v w' => am_run 241 28 [some (.ref l0), none, none, some (.ref l3), none] (v.toList ++ [.int s0, .int s1, .ref s2]) w' := by
  refine (bu (ls'' := [some (.ref l0), none, none, some (.ref l3), none]) (st' := [.ref l0, .int s0, .int s1, .ref s2]) bf241_24 bf241_25 rfl rfl).trans ?_
  exact bkV bf241_25 bf241_28 rfl (by decide +kernel) (Nat.le_of_ble_eq_true rfl) rfl (bhd rfl)
theorem bk241_28 {w : am_Wd} {l0 : Nat} {l3 : Nat} {s0 : Int32} {s1 : Int32} {s2 : Int32} {s3 : Nat} : am_run 241 28 [some (.ref l0), none, none, some (.ref l3), none] [.int s0, .int s1, .int s2, .ref s3] w = (am_kf w s3 5).bind fun _ => (am_x 158 [.ref s3, .int s2, .int s1, .int s0] w).bind fun r => bct r fun v w' => am_run 241 31 [some (.ref l0), none, none, some (.ref l3), none] (v.toList ++ []) w' := by
  exact bkV bf241_28 bf241_31 rfl (by decide +kernel) (Nat.le_of_ble_eq_true rfl) rfl (bhd rfl)
theorem bk241_31 {w : am_Wd} {l0 : Nat} {l3 : Nat} {s0 : Int32} : am_run 241 31 [some (.ref l0), none, none, some (.ref l3), none] [.int s0] w = (am_kf w l3 6).bind fun _ => (am_x 161 [.ref l3, .int s0] w).bind fun r => bct r fun v w' => am_run 241 39 [some (.ref l0), none, none, some (.ref l3), some (.int s0)] (v.toList ++ []) w' := by
  refine (bu (ls'' := [some (.ref l0), none, none, some (.ref l3), some (.int s0)]) (st' := []) bf241_31 bf241_33 rfl rfl).trans ?_
  refine (bu (ls'' := [some (.ref l0), none, none, some (.ref l3), some (.int s0)]) (st' := [.ref l3]) bf241_33 bf241_34 rfl rfl).trans ?_
  refine (bu (ls'' := [some (.ref l0), none, none, some (.ref l3), some (.int s0)]) (st' := [.int s0, .ref l3]) bf241_34 bf241_36 rfl rfl).trans ?_
  exact bkV bf241_36 bf241_39 rfl (by decide +kernel) (Nat.le_of_ble_eq_true rfl) rfl (bhd rfl)
theorem bk241_39 {w : am_Wd} {l0 : Nat} {l3 : Nat} {l4 : Int32} : am_run 241 39 [some (.ref l0), none, none, some (.ref l3), some (.int l4)] [] w = (am_kf w l0 8).bind fun _ => (am_x 32 [.ref l0, .ref l3] w).bind fun r => bct r fun v w' => am_run 241 44 [none, none, none, none, some (.int l4)] (v.toList ++ []) w' := by
  refine (bu (ls'' := [none, none, none, some (.ref l3), some (.int l4)]) (st' := [.ref l0]) bf241_39 bf241_40 rfl rfl).trans ?_
  refine (bu (ls'' := [none, none, none, none, some (.int l4)]) (st' := [.ref l3, .ref l0]) bf241_40 bf241_41 rfl rfl).trans ?_
  exact bkV bf241_41 bf241_44 rfl (by decide +kernel) (Nat.le_of_ble_eq_true rfl) rfl (bhd rfl)
theorem bk241_44 {w : am_Wd} {l4 : Int32} : am_run 241 44 [none, none, none, none, some (.int l4)] [] w = some (.inl (some (.int l4)), w) := by
  refine (bu (ls'' := [none, none, none, none, none]) (st' := [.int l4]) bf241_44 bf241_46 rfl rfl).trans ?_
  exact am_e2 bf241_46 rfl (am_ge_rf w)
theorem bf242_0 : am_fetch (am_mth 242) 0 = some (.aload_n 0, 1, [], [3, 4, 5, 6]) := by decide +kernel
theorem bf242_1 : am_fetch (am_mth 242) 1 = some (.iload_n 1, 1, [], [3, 4, 5, 6]) := by decide +kernel
theorem bf242_2 : am_fetch (am_mth 242) 2 = some (.invokevirtual 89, 3, [0, 31, 1, 8, 352, 354, 4, 46], [3, 4, 5, 6]) := by decide +kernel
theorem bf242_5 : am_fetch (am_mth 242) 5 = some (.astore_n 3, 1, [], [3, 4, 5, 6]) := by decide +kernel
theorem bf242_6 : am_fetch (am_mth 242) 6 = some (.aload_n 0, 1, [], [4, 5, 6]) := by decide +kernel
theorem bf242_7 : am_fetch (am_mth 242) 7 = some (.aload_n 3, 1, [], [4, 5, 6]) := by decide +kernel
theorem bf242_8 : am_fetch (am_mth 242) 8 = some (.iload_n 2, 1, [], [4, 5, 6]) := by decide +kernel
theorem bf242_9 : am_fetch (am_mth 242) 9 = some (.invokevirtual 93, 3, [0, 225, 2, 8, 653, 655, 9, 46], [2, 4, 5, 6]) := by decide +kernel
theorem bf242_12 : am_fetch (am_mth 242) 12 = some (.iconst 0, 1, [], [2, 4, 5, 6]) := by decide +kernel
theorem bf242_13 : am_fetch (am_mth 242) 13 = some (.istore 4, 2, [], [2, 4, 5, 6]) := by decide +kernel
theorem bf242_15 : am_fetch (am_mth 242) 15 = some (.iconst 0, 1, [], [2, 5, 6]) := by decide +kernel
theorem bf242_16 : am_fetch (am_mth 242) 16 = some (.istore 5, 2, [], [2, 5, 6]) := by decide +kernel
theorem bf242_18 : am_fetch (am_mth 242) 18 = some (.iload 5, 2, [], [2, 6]) := by decide +kernel
theorem bf242_20 : am_fetch (am_mth 242) 20 = some (.aload_n 0, 1, [], [2, 6]) := by decide +kernel
theorem bf242_21 : am_fetch (am_mth 242) 21 = some (.getfield 18, 3, [0, 8, 1, 112], [2, 6]) := by decide +kernel
theorem bf242_24 : am_fetch (am_mth 242) 24 = some (.arraylength, 1, [], [2, 6]) := by decide +kernel
theorem bf242_25 : am_fetch (am_mth 242) 25 = some (.if_icmp .ge 47, 3, [], [2, 6]) := by decide +kernel
theorem bf242_28 : am_fetch (am_mth 242) 28 = some (.aload_n 0, 1, [], [2, 6]) := by decide +kernel
theorem bf242_29 : am_fetch (am_mth 242) 29 = some (.getfield 18, 3, [0, 8, 1, 112], [2, 6]) := by decide +kernel
theorem bf242_32 : am_fetch (am_mth 242) 32 = some (.iload 5, 2, [], [2, 6]) := by decide +kernel
theorem bf242_34 : am_fetch (am_mth 242) 34 = some (.aaload, 1, [], [2, 6]) := by decide +kernel
theorem bf242_35 : am_fetch (am_mth 242) 35 = some (.astore 6, 2, [], [2, 6]) := by decide +kernel
theorem bf242_37 : am_fetch (am_mth 242) 37 = some (.iload 5, 2, [], [2]) := by decide +kernel
theorem bf242_39 : am_fetch (am_mth 242) 39 = some (.iload_n 1, 1, [], [2]) := by decide +kernel
theorem bf242_40 : am_fetch (am_mth 242) 40 = some (.if_icmp .eq 26, 3, [], [2]) := by decide +kernel
theorem bf242_43 : am_fetch (am_mth 242) 43 = some (.aload 6, 2, [], [2]) := by decide +kernel
theorem bf242_45 : am_fetch (am_mth 242) 45 = some (.ifnull 21, 3, [], [2]) := by decide +kernel
theorem bf242_48 : am_fetch (am_mth 242) 48 = some (.aload_n 3, 1, [], [2]) := by decide +kernel
theorem bf242_49 : am_fetch (am_mth 242) 49 = some (.invokevirtual 103, 3, [0, 17, 0, 6, 667, 668, 669, 63], [2]) := by decide +kernel
theorem bf242_52 : am_fetch (am_mth 242) 52 = some (.aload 6, 2, [], [2]) := by decide +kernel
theorem bf242_54 : am_fetch (am_mth 242) 54 = some (.invokevirtual 103, 3, [0, 17, 0, 6, 667, 668, 669, 63], [2, 6]) := by decide +kernel
theorem bf242_57 : am_fetch (am_mth 242) 57 = some (.invokestatic 149, 3, [0, 16, 2, 764, 765, 57], [2, 6]) := by decide +kernel
theorem bf242_60 : am_fetch (am_mth 242) 60 = some (.ifCond .eq 6, 3, [], [2, 6]) := by decide +kernel
theorem bf242_63 : am_fetch (am_mth 242) 63 = some (.iinc 4 1, 3, [], [2, 6]) := by decide +kernel
theorem bf242_66 : am_fetch (am_mth 242) 66 = some (.iinc 5 1, 3, [], [2, 6]) := by decide +kernel
theorem bf242_69 : am_fetch (am_mth 242) 69 = some (.goto (-51), 3, [], [2, 6]) := by decide +kernel
theorem bf242_72 : am_fetch (am_mth 242) 72 = some (.aload_n 0, 1, [], [1, 2, 5, 6]) := by decide +kernel
theorem bf242_73 : am_fetch (am_mth 242) 73 = some (.aload_n 3, 1, [], [0, 1, 2, 5, 6]) := by decide +kernel
theorem bf242_74 : am_fetch (am_mth 242) 74 = some (.invokevirtual 127, 3, [0, 32, 1, 8, 712, 714, 15, 46], [0, 1, 2, 3, 5, 6]) := by decide +kernel
theorem bf242_77 : am_fetch (am_mth 242) 77 = some (.iload 4, 2, [], [0, 1, 2, 3, 5, 6]) := by decide +kernel
theorem bf242_79 : am_fetch (am_mth 242) 79 = some (.ireturn, 1, [0], [0, 1, 2, 3, 4, 5, 6]) := by decide +kernel
theorem bk242_0 {w : am_Wd} {l0 : Nat} {l1 : Int32} {l2 : Int32} : am_run 242 0 [some (.ref l0), some (.int l1), some (.int l2), none, none, none, none] [] w = (am_kf w l0 8).bind fun _ => (am_x 31 [.ref l0, .int l1] w).bind fun r => bct r fun v w' => am_run 242 5 [some (.ref l0), some (.int l1), some (.int l2), none, none, none, none] (v.toList ++ []) w' := by
  refine (bu (ls'' := [some (.ref l0), some (.int l1), some (.int l2), none, none, none, none]) (st' := [.ref l0]) bf242_0 bf242_1 rfl rfl).trans ?_
  refine (bu (ls'' := [some (.ref l0), some (.int l1), some (.int l2), none, none, none, none]) (st' := [.int l1, .ref l0]) bf242_1 bf242_2 rfl rfl).trans ?_
  exact bkV bf242_2 bf242_5 rfl (by decide +kernel) (Nat.le_of_ble_eq_true rfl) rfl (bhd rfl)
theorem bk242_5 {w : am_Wd} {l0 : Nat} {l1 : Int32} {l2 : Int32} {s0 : Nat} : am_run 242 5 [some (.ref l0), some (.int l1), some (.int l2), none, none, none, none] [.ref s0] w = (am_kf w l0 8).bind fun _ => (am_x 225 [.ref l0, .ref s0, .int l2] w).bind fun r => bct r fun v w' => am_run 242 12 [some (.ref l0), some (.int l1), none, some (.ref s0), none, none, none] (v.toList ++ []) w' := by
  refine (bu (ls'' := [some (.ref l0), some (.int l1), some (.int l2), some (.ref s0), none, none, none]) (st' := []) bf242_5 bf242_6 rfl rfl).trans ?_
  refine (bu (ls'' := [some (.ref l0), some (.int l1), some (.int l2), some (.ref s0), none, none, none]) (st' := [.ref l0]) bf242_6 bf242_7 rfl rfl).trans ?_
  refine (bu (ls'' := [some (.ref l0), some (.int l1), some (.int l2), some (.ref s0), none, none, none]) (st' := [.ref s0, .ref l0]) bf242_7 bf242_8 rfl rfl).trans ?_
  refine (bu (ls'' := [some (.ref l0), some (.int l1), none, some (.ref s0), none, none, none]) (st' := [.int l2, .ref s0, .ref l0]) bf242_8 bf242_9 rfl rfl).trans ?_
  exact bkV bf242_9 bf242_12 rfl (by decide +kernel) (Nat.le_of_ble_eq_true rfl) rfl (bhd rfl)
theorem bk242_12 {w : am_Wd} {l0 : Nat} {l1 : Int32} {l3 : Nat} : am_run 242 12 [some (.ref l0), some (.int l1), none, some (.ref l3), none, none, none] [] w = am_run 242 18 [some (.ref l0), some (.int l1), none, some (.ref l3), some (.int (nI 0)), some (.int (nI 0)), none] [] w := by
  refine (bu (ls'' := [some (.ref l0), some (.int l1), none, some (.ref l3), none, none, none]) (st' := [.int (nI 0)]) bf242_12 bf242_13 rfl rfl).trans ?_
  refine (bu (ls'' := [some (.ref l0), some (.int l1), none, some (.ref l3), some (.int (nI 0)), none, none]) (st' := []) bf242_13 bf242_15 rfl rfl).trans ?_
  refine (bu (ls'' := [some (.ref l0), some (.int l1), none, some (.ref l3), some (.int (nI 0)), none, none]) (st' := [.int (nI 0)]) bf242_15 bf242_16 rfl rfl).trans ?_
  refine (bu (ls'' := [some (.ref l0), some (.int l1), none, some (.ref l3), some (.int (nI 0)), some (.int (nI 0)), none]) (st' := []) bf242_16 bf242_18 rfl rfl).trans ?_
  rfl
theorem bk242_18 {w : am_Wd} {l0 : Nat} {l1 : Int32} {l3 : Nat} {l4 : Int32} {l5 : Int32} : am_run 242 18 [some (.ref l0), some (.int l1), none, some (.ref l3), some (.int l4), some (.int l5), none] [] w = (am_gf w l0 8 1).bind fun v => am_run 242 24 [some (.ref l0), some (.int l1), none, some (.ref l3), some (.int l4), some (.int l5), none] (v :: [.int l5]) w := by
  refine (bu (ls'' := [some (.ref l0), some (.int l1), none, some (.ref l3), some (.int l4), some (.int l5), none]) (st' := [.int l5]) bf242_18 bf242_20 rfl rfl).trans ?_
  refine (bu (ls'' := [some (.ref l0), some (.int l1), none, some (.ref l3), some (.int l4), some (.int l5), none]) (st' := [.ref l0, .int l5]) bf242_20 bf242_21 rfl rfl).trans ?_
  exact bh bf242_21 bf242_24 rfl (fun _ _ => am_ge_rf w) rfl
theorem bk242_24 {w : am_Wd} {l0 : Nat} {l1 : Int32} {l3 : Nat} {l4 : Int32} {l5 : Int32} {s0 : Nat} {s1 : Int32} : am_run 242 24 [some (.ref l0), some (.int l1), none, some (.ref l3), some (.int l4), some (.int l5), none] [.ref s0, .int s1] w = (am_len w s0).bind fun v => am_run 242 25 [some (.ref l0), some (.int l1), none, some (.ref l3), some (.int l4), some (.int l5), none] (.int (nI v) :: [.int s1]) w := by
  exact bh bf242_24 bf242_25 rfl (fun _ _ => am_ge_rf w) rfl
theorem bk242_25 {w : am_Wd} {l0 : Nat} {l1 : Int32} {l3 : Nat} {l4 : Int32} {l5 : Int32} {s0 : Int32} {s1 : Int32} : am_run 242 25 [some (.ref l0), some (.int l1), none, some (.ref l3), some (.int l4), some (.int l5), none] [.int s0, .int s1] w = if s0 ≤ s1 then am_run 242 72 [some (.ref l0), none, none, some (.ref l3), some (.int l4), none, none] [] w else am_run 242 28 [some (.ref l0), some (.int l1), none, some (.ref l3), some (.int l4), some (.int l5), none] [] w := by
  exact bic bf242_25 rfl bf242_72 bf242_28 rfl rfl rfl
theorem bk242_72 {w : am_Wd} {l0 : Nat} {l3 : Nat} {l4 : Int32} : am_run 242 72 [some (.ref l0), none, none, some (.ref l3), some (.int l4), none, none] [] w = (am_kf w l0 8).bind fun _ => (am_x 32 [.ref l0, .ref l3] w).bind fun r => bct r fun v w' => am_run 242 77 [none, none, none, none, some (.int l4), none, none] (v.toList ++ []) w' := by
  refine (bu (ls'' := [none, none, none, some (.ref l3), some (.int l4), none, none]) (st' := [.ref l0]) bf242_72 bf242_73 rfl rfl).trans ?_
  refine (bu (ls'' := [none, none, none, none, some (.int l4), none, none]) (st' := [.ref l3, .ref l0]) bf242_73 bf242_74 rfl rfl).trans ?_
  exact bkV bf242_74 bf242_77 rfl (by decide +kernel) (Nat.le_of_ble_eq_true rfl) rfl (bhd rfl)
theorem bk242_28 {w : am_Wd} {l0 : Nat} {l1 : Int32} {l3 : Nat} {l4 : Int32} {l5 : Int32} : am_run 242 28 [some (.ref l0), some (.int l1), none, some (.ref l3), some (.int l4), some (.int l5), none] [] w = (am_gf w l0 8 1).bind fun v => am_run 242 32 [some (.ref l0), some (.int l1), none, some (.ref l3), some (.int l4), some (.int l5), none] (v :: []) w := by
  refine (bu (ls'' := [some (.ref l0), some (.int l1), none, some (.ref l3), some (.int l4), some (.int l5), none]) (st' := [.ref l0]) bf242_28 bf242_29 rfl rfl).trans ?_
  exact bh bf242_29 bf242_32 rfl (fun _ _ => am_ge_rf w) rfl
theorem bk242_77 {w : am_Wd} {l4 : Int32} : am_run 242 77 [none, none, none, none, some (.int l4), none, none] [] w = some (.inl (some (.int l4)), w) := by
  refine (bu (ls'' := [none, none, none, none, none, none, none]) (st' := [.int l4]) bf242_77 bf242_79 rfl rfl).trans ?_
  exact am_e2 bf242_79 rfl (am_ge_rf w)
theorem bk242_32 {w : am_Wd} {l0 : Nat} {l1 : Int32} {l3 : Nat} {l4 : Int32} {l5 : Int32} {s0 : Nat} : am_run 242 32 [some (.ref l0), some (.int l1), none, some (.ref l3), some (.int l4), some (.int l5), none] [.ref s0] w = (am_rq w s0 l5).bind fun v => am_run 242 35 [some (.ref l0), some (.int l1), none, some (.ref l3), some (.int l4), some (.int l5), none] (v :: []) w := by
  refine (bu (ls'' := [some (.ref l0), some (.int l1), none, some (.ref l3), some (.int l4), some (.int l5), none]) (st' := [.int l5, .ref s0]) bf242_32 bf242_34 rfl rfl).trans ?_
  exact bh bf242_34 bf242_35 rfl (fun _ _ => am_ge_rf w) rfl
theorem bk242_35 {w : am_Wd} {l0 : Nat} {l1 : Int32} {l3 : Nat} {l4 : Int32} {l5 : Int32} {s0 : Nat} : am_run 242 35 [some (.ref l0), some (.int l1), none, some (.ref l3), some (.int l4), some (.int l5), none] [.ref s0] w = if l5 = l1 then am_run 242 66 [some (.ref l0), some (.int l1), none, some (.ref l3), some (.int l4), some (.int l5), none] [] w else am_run 242 43 [some (.ref l0), some (.int l1), none, some (.ref l3), some (.int l4), some (.int l5), some (.ref s0)] [] w := by
  refine (bu (ls'' := [some (.ref l0), some (.int l1), none, some (.ref l3), some (.int l4), some (.int l5), some (.ref s0)]) (st' := []) bf242_35 bf242_37 rfl rfl).trans ?_
  refine (bu (ls'' := [some (.ref l0), some (.int l1), none, some (.ref l3), some (.int l4), some (.int l5), some (.ref s0)]) (st' := [.int l5]) bf242_37 bf242_39 rfl rfl).trans ?_
  refine (bu (ls'' := [some (.ref l0), some (.int l1), none, some (.ref l3), some (.int l4), some (.int l5), some (.ref s0)]) (st' := [.int l1, .int l5]) bf242_39 bf242_40 rfl rfl).trans ?_
  exact bic bf242_40 rfl bf242_66 bf242_43 rfl rfl rfl
theorem bk242_35a {w : am_Wd} {l0 : Nat} {l1 : Int32} {l3 : Nat} {l4 : Int32} {l5 : Int32} : am_run 242 35 [some (.ref l0), some (.int l1), none, some (.ref l3), some (.int l4), some (.int l5), none] [.null] w = if l5 = l1 then am_run 242 66 [some (.ref l0), some (.int l1), none, some (.ref l3), some (.int l4), some (.int l5), none] [] w else am_run 242 43 [some (.ref l0), some (.int l1), none, some (.ref l3), some (.int l4), some (.int l5), some (.null)] [] w := by
  refine (bu (ls'' := [some (.ref l0), some (.int l1), none, some (.ref l3), some (.int l4), some (.int l5), some (.null)]) (st' := []) bf242_35 bf242_37 rfl rfl).trans ?_
  refine (bu (ls'' := [some (.ref l0), some (.int l1), none, some (.ref l3), some (.int l4), some (.int l5), some (.null)]) (st' := [.int l5]) bf242_37 bf242_39 rfl rfl).trans ?_
  refine (bu (ls'' := [some (.ref l0), some (.int l1), none, some (.ref l3), some (.int l4), some (.int l5), some (.null)]) (st' := [.int l1, .int l5]) bf242_39 bf242_40 rfl rfl).trans ?_
  exact bic bf242_40 rfl bf242_66 bf242_43 rfl rfl rfl
theorem bk242_66 {w : am_Wd} {l0 : Nat} {l1 : Int32} {l3 : Nat} {l4 : Int32} {l5 : Int32} : am_run 242 66 [some (.ref l0), some (.int l1), none, some (.ref l3), some (.int l4), some (.int l5), none] [] w = am_run 242 18 [some (.ref l0), some (.int l1), none, some (.ref l3), some (.int l4), some (.int (l5 + (nI 1))), none] [] w := by
  refine (bu (ls'' := [some (.ref l0), some (.int l1), none, some (.ref l3), some (.int l4), some (.int (l5 + (nI 1))), none]) (st' := []) bf242_66 bf242_69 rfl rfl).trans ?_
  refine (bu (ls'' := [some (.ref l0), some (.int l1), none, some (.ref l3), some (.int l4), some (.int (l5 + (nI 1))), none]) (st' := []) bf242_69 bf242_18 rfl rfl).trans ?_
  rfl
theorem bk242_43 {w : am_Wd} {l0 : Nat} {l1 : Int32} {l3 : Nat} {l4 : Int32} {l5 : Int32} {l6 : Nat} : am_run 242 43 [some (.ref l0), some (.int l1), none, some (.ref l3), some (.int l4), some (.int l5), some (.ref l6)] [] w = (am_kf w l3 6).bind fun _ => (am_x 17 [.ref l3] w).bind fun r => bct r fun v w' => am_run 242 52 [some (.ref l0), some (.int l1), none, some (.ref l3), some (.int l4), some (.int l5), some (.ref l6)] (v.toList ++ []) w' := by
  refine (bu (ls'' := [some (.ref l0), some (.int l1), none, some (.ref l3), some (.int l4), some (.int l5), some (.ref l6)]) (st' := [.ref l6]) bf242_43 bf242_45 rfl rfl).trans ?_
  refine (bu (ls'' := [some (.ref l0), some (.int l1), none, some (.ref l3), some (.int l4), some (.int l5), some (.ref l6)]) (st' := []) bf242_45 bf242_48 rfl rfl).trans ?_
  refine (bu (ls'' := [some (.ref l0), some (.int l1), none, some (.ref l3), some (.int l4), some (.int l5), some (.ref l6)]) (st' := [.ref l3]) bf242_48 bf242_49 rfl rfl).trans ?_
  exact bkV bf242_49 bf242_52 rfl (by decide +kernel) (Nat.le_of_ble_eq_true rfl) rfl (bhd rfl)
theorem bk242_43a {w : am_Wd} {l0 : Nat} {l1 : Int32} {l3 : Nat} {l4 : Int32} {l5 : Int32} : am_run 242 43 [some (.ref l0), some (.int l1), none, some (.ref l3), some (.int l4), some (.int l5), some (.null)] [] w = am_run 242 66 [some (.ref l0), some (.int l1), none, some (.ref l3), some (.int l4), some (.int l5), none] [] w := by
  refine (bu (ls'' := [some (.ref l0), some (.int l1), none, some (.ref l3), some (.int l4), some (.int l5), some (.null)]) (st' := [.null]) bf242_43 bf242_45 rfl rfl).trans ?_
  refine (bu (ls'' := [some (.ref l0), some (.int l1), none, some (.ref l3), some (.int l4), some (.int l5), none]) (st' := []) bf242_45 bf242_66 rfl rfl).trans ?_
  rfl
theorem bk242_52 {w : am_Wd} {l0 : Nat} {l1 : Int32} {l3 : Nat} {l4 : Int32} {l5 : Int32} {l6 : Nat} {s0 : Int32} : am_run 242 52 [some (.ref l0), some (.int l1), none, some (.ref l3), some (.int l4), some (.int l5), some (.ref l6)] [.int s0] w = (am_kf w l6 6).bind fun _ => (am_x 17 [.ref l6] w).bind fun r => bct r fun v w' => am_run 242 57 [some (.ref l0), some (.int l1), none, some (.ref l3), some (.int l4), some (.int l5), none] (v.toList ++ [.int s0]) w' := by
  refine (bu (ls'' := [some (.ref l0), some (.int l1), none, some (.ref l3), some (.int l4), some (.int l5), none]) (st' := [.ref l6, .int s0]) bf242_52 bf242_54 rfl rfl).trans ?_
  exact bkV bf242_54 bf242_57 rfl (by decide +kernel) (Nat.le_of_ble_eq_true rfl) rfl (bhd rfl)
theorem bk242_57 {w : am_Wd} {l0 : Nat} {l1 : Int32} {l3 : Nat} {l4 : Int32} {l5 : Int32} {s0 : Int32} {s1 : Int32} : am_run 242 57 [some (.ref l0), some (.int l1), none, some (.ref l3), some (.int l4), some (.int l5), none] [.int s0, .int s1] w = (am_x 16 [.int s1, .int s0] w).bind fun r => bct r fun v w' => am_run 242 60 [some (.ref l0), some (.int l1), none, some (.ref l3), some (.int l4), some (.int l5), none] (v.toList ++ []) w' := by
  exact bkS bf242_57 bf242_60 rfl (by decide +kernel) (Nat.le_of_ble_eq_true rfl) rfl (bhd rfl)
theorem bk242_60 {w : am_Wd} {l0 : Nat} {l1 : Int32} {l3 : Nat} {l4 : Int32} {l5 : Int32} {s0 : Int32} : am_run 242 60 [some (.ref l0), some (.int l1), none, some (.ref l3), some (.int l4), some (.int l5), none] [.int s0] w = if s0 = nI 0 then am_run 242 66 [some (.ref l0), some (.int l1), none, some (.ref l3), some (.int l4), some (.int l5), none] [] w else am_run 242 63 [some (.ref l0), some (.int l1), none, some (.ref l3), some (.int l4), some (.int l5), none] [] w := by
  exact bifc bf242_60 rfl bf242_66 bf242_63 rfl rfl rfl
theorem bk242_63 {w : am_Wd} {l0 : Nat} {l1 : Int32} {l3 : Nat} {l4 : Int32} {l5 : Int32} : am_run 242 63 [some (.ref l0), some (.int l1), none, some (.ref l3), some (.int l4), some (.int l5), none] [] w = am_run 242 66 [some (.ref l0), some (.int l1), none, some (.ref l3), some (.int (l4 + (nI 1))), some (.int l5), none] [] w := by
  refine (bu (ls'' := [some (.ref l0), some (.int l1), none, some (.ref l3), some (.int (l4 + (nI 1))), some (.int l5), none]) (st' := []) bf242_63 bf242_66 rfl rfl).trans ?_
  rfl
theorem bf243_0 : am_fetch (am_mth 243) 0 = some (.iload_n 1, 1, [], [2, 3, 4]) := by decide +kernel
theorem bf243_1 : am_fetch (am_mth 243) 1 = some (.ifCond .lt 9, 3, [], [2, 3, 4]) := by decide +kernel
theorem bf243_4 : am_fetch (am_mth 243) 4 = some (.iload_n 1, 1, [], [2, 3, 4]) := by decide +kernel
theorem bf243_5 : am_fetch (am_mth 243) 5 = some (.bipush 6, 2, [], [2, 3, 4]) := by decide +kernel
theorem bf243_7 : am_fetch (am_mth 243) 7 = some (.if_icmp .lt 13, 3, [], [2, 3, 4]) := by decide +kernel
theorem bf243_10 : am_fetch (am_mth 243) 10 = some (.new 223, 3, [1, 0, 314, 56, 834, 225, 227], [0, 1, 2, 3, 4]) := by decide +kernel
theorem bf243_13 : am_fetch (am_mth 243) 13 = some (.dup, 1, [], [0, 1, 2, 3, 4]) := by decide +kernel
theorem bf243_14 : am_fetch (am_mth 243) 14 = some (.ldc 225, 2, [1, 15, 834], [0, 1, 2, 3, 4]) := by decide +kernel
theorem bf243_16 : am_fetch (am_mth 243) 16 = some (.invokespecial 227, 3, [], [0, 1, 2, 3, 4]) := by decide +kernel
theorem bf243_19 : am_fetch (am_mth 243) 19 = some (.athrow, 1, [], [0, 1, 2, 3, 4]) := by decide +kernel
theorem bf243_20 : am_fetch (am_mth 243) 20 = some (.new 228, 3, [0, 1, 4, 835, 836, 74], [2, 3, 4]) := by decide +kernel
theorem bf243_23 : am_fetch (am_mth 243) 23 = some (.dup, 1, [], [2, 3, 4]) := by decide +kernel
theorem bf243_24 : am_fetch (am_mth 243) 24 = some (.invokespecial 230, 3, [0, 111, 0, 837, 838, 74], [2, 3, 4]) := by decide +kernel
theorem bf243_27 : am_fetch (am_mth 243) 27 = some (.astore_n 2, 1, [], [2, 3, 4]) := by decide +kernel
theorem bf243_28 : am_fetch (am_mth 243) 28 = some (.iconst 0, 1, [], [3, 4]) := by decide +kernel
theorem bf243_29 : am_fetch (am_mth 243) 29 = some (.istore_n 3, 1, [], [3, 4]) := by decide +kernel
theorem bf243_30 : am_fetch (am_mth 243) 30 = some (.iload_n 3, 1, [], [4]) := by decide +kernel
theorem bf243_31 : am_fetch (am_mth 243) 31 = some (.bipush 6, 2, [], [4]) := by decide +kernel
theorem bf243_33 : am_fetch (am_mth 243) 33 = some (.if_icmp .ge 51, 3, [], [4]) := by decide +kernel
theorem bf243_36 : am_fetch (am_mth 243) 36 = some (.iload_n 1, 1, [], [4]) := by decide +kernel
theorem bf243_37 : am_fetch (am_mth 243) 37 = some (.bipush 6, 2, [], [4]) := by decide +kernel
theorem bf243_39 : am_fetch (am_mth 243) 39 = some (.imul, 1, [], [4]) := by decide +kernel
theorem bf243_40 : am_fetch (am_mth 243) 40 = some (.iload_n 3, 1, [], [4]) := by decide +kernel
theorem bf243_41 : am_fetch (am_mth 243) 41 = some (.iadd, 1, [], [4]) := by decide +kernel
theorem bf243_42 : am_fetch (am_mth 243) 42 = some (.istore 4, 2, [], [4]) := by decide +kernel
theorem bf243_44 : am_fetch (am_mth 243) 44 = some (.aload_n 2, 1, [], []) := by decide +kernel
theorem bf243_45 : am_fetch (am_mth 243) 45 = some (.aload_n 0, 1, [], []) := by decide +kernel
theorem bf243_46 : am_fetch (am_mth 243) 46 = some (.iload 4, 2, [], []) := by decide +kernel
theorem bf243_48 : am_fetch (am_mth 243) 48 = some (.invokevirtual 231, 3, [0, 94, 1, 8, 866, 868, 17, 46], []) := by decide +kernel
theorem bf243_51 : am_fetch (am_mth 243) 51 = some (.invokevirtual 235, 3, [0, 154, 1, 1, 870, 871, 872, 74], []) := by decide +kernel
theorem bf243_54 : am_fetch (am_mth 243) 54 = some (.pop, 1, [], []) := by decide +kernel
theorem bf243_55 : am_fetch (am_mth 243) 55 = some (.iload_n 3, 1, [], []) := by decide +kernel
theorem bf243_56 : am_fetch (am_mth 243) 56 = some (.iconst 5, 1, [], []) := by decide +kernel
theorem bf243_57 : am_fetch (am_mth 243) 57 = some (.if_icmp .ge 21, 3, [], []) := by decide +kernel
theorem bf243_60 : am_fetch (am_mth 243) 60 = some (.aload_n 2, 1, [], []) := by decide +kernel
theorem bf243_61 : am_fetch (am_mth 243) 61 = some (.aload_n 0, 1, [], []) := by decide +kernel
theorem bf243_62 : am_fetch (am_mth 243) 62 = some (.getfield 10, 3, [0, 8, 0, 111], []) := by decide +kernel
theorem bf243_65 : am_fetch (am_mth 243) 65 = some (.iload 4, 2, [], []) := by decide +kernel
theorem bf243_67 : am_fetch (am_mth 243) 67 = some (.iconst 1, 1, [], [4]) := by decide +kernel
theorem bf243_68 : am_fetch (am_mth 243) 68 = some (.invokevirtual 48, 3, [0, 124, 2, 5, 334, 335, 336, 47], [4]) := by decide +kernel
theorem bf243_71 : am_fetch (am_mth 243) 71 = some (.invokestatic 239, 3, [0, 34, 1, 959, 960, 46], [4]) := by decide +kernel
theorem bf243_74 : am_fetch (am_mth 243) 74 = some (.invokevirtual 235, 3, [0, 154, 1, 1, 870, 871, 872, 74], [4]) := by decide +kernel
theorem bf243_77 : am_fetch (am_mth 243) 77 = some (.pop, 1, [], [4]) := by decide +kernel
theorem bf243_78 : am_fetch (am_mth 243) 78 = some (.iinc 3 1, 3, [], [4]) := by decide +kernel
theorem bf243_81 : am_fetch (am_mth 243) 81 = some (.goto (-51), 3, [], [4]) := by decide +kernel
theorem bf243_84 : am_fetch (am_mth 243) 84 = some (.aload_n 2, 1, [], [0, 1, 3, 4]) := by decide +kernel
theorem bf243_85 : am_fetch (am_mth 243) 85 = some (.invokevirtual 242, 3, [0, 238, 0, 1, 962, 963, 964, 74], [0, 1, 2, 3, 4]) := by decide +kernel
theorem bf243_88 : am_fetch (am_mth 243) 88 = some (.areturn, 1, [], [0, 1, 2, 3, 4]) := by decide +kernel
theorem bk243_0 {w : am_Wd} {l0 : Nat} {l1 : Int32} : am_run 243 0 [some (.ref l0), some (.int l1), none, none, none] [] w = if l1 < nI 0 then am_run 243 10 [none, none, none, none, none] [] w else am_run 243 4 [some (.ref l0), some (.int l1), none, none, none] [] w := by
  refine (bu (ls'' := [some (.ref l0), some (.int l1), none, none, none]) (st' := [.int l1]) bf243_0 bf243_1 rfl rfl).trans ?_
  exact bifc bf243_1 rfl bf243_10 bf243_4 rfl rfl rfl
theorem bk243_10 {w : am_Wd}  : am_run 243 10 [none, none, none, none, none] [] w = some (.inr (am_xn 0), am_jk w 1 6) := by
  exact am_e2 bf243_10 rfl (am_ge_jk _ _ _)
theorem bk243_4 {w : am_Wd} {l0 : Nat} {l1 : Int32} : am_run 243 4 [some (.ref l0), some (.int l1), none, none, none] [] w = if l1 < (nI 6) then am_run 243 20 [some (.ref l0), some (.int l1), none, none, none] [] w else am_run 243 10 [none, none, none, none, none] [] w := by
  refine (bu (ls'' := [some (.ref l0), some (.int l1), none, none, none]) (st' := [.int l1]) bf243_4 bf243_5 rfl rfl).trans ?_
  refine (bu (ls'' := [some (.ref l0), some (.int l1), none, none, none]) (st' := [.int (nI 6), .int l1]) bf243_5 bf243_7 rfl rfl).trans ?_
  exact bic bf243_7 rfl bf243_20 bf243_10 rfl rfl rfl
theorem bk243_20 {w : am_Wd} {l0 : Nat} {l1 : Int32} : am_run 243 20 [some (.ref l0), some (.int l1), none, none, none] [] w = am_run 243 23 [some (.ref l0), some (.int l1), none, none, none] (.ref w.2.1 :: []) (am_nw w (.inr (1, am_df 1 4)) 4) := by
  exact bn bf243_20 bf243_23 rfl rfl (am_ge_nw _ _ _)
theorem bk243_23 {w : am_Wd} {l0 : Nat} {l1 : Int32} {s0 : Nat} : am_run 243 23 [some (.ref l0), some (.int l1), none, none, none] [.ref s0] w = (am_x 111 [.ref s0] w).bind fun r => bct r fun v w' => am_run 243 27 [some (.ref l0), some (.int l1), none, none, none] (v.toList ++ [.ref s0]) w' := by
  refine (bu (ls'' := [some (.ref l0), some (.int l1), none, none, none]) (st' := [.ref s0, .ref s0]) bf243_23 bf243_24 rfl rfl).trans ?_
  exact bkS bf243_24 bf243_27 rfl (by decide +kernel) (Nat.le_of_ble_eq_true rfl) rfl (bhd rfl)
theorem bk243_27 {w : am_Wd} {l0 : Nat} {l1 : Int32} {s0 : Nat} : am_run 243 27 [some (.ref l0), some (.int l1), none, none, none] [.ref s0] w = am_run 243 30 [some (.ref l0), some (.int l1), some (.ref s0), some (.int (nI 0)), none] [] w := by
  refine (bu (ls'' := [some (.ref l0), some (.int l1), some (.ref s0), none, none]) (st' := []) bf243_27 bf243_28 rfl rfl).trans ?_
  refine (bu (ls'' := [some (.ref l0), some (.int l1), some (.ref s0), none, none]) (st' := [.int (nI 0)]) bf243_28 bf243_29 rfl rfl).trans ?_
  refine (bu (ls'' := [some (.ref l0), some (.int l1), some (.ref s0), some (.int (nI 0)), none]) (st' := []) bf243_29 bf243_30 rfl rfl).trans ?_
  rfl
theorem bk243_30 {w : am_Wd} {l0 : Nat} {l1 : Int32} {l2 : Nat} {l3 : Int32} : am_run 243 30 [some (.ref l0), some (.int l1), some (.ref l2), some (.int l3), none] [] w = if (nI 6) ≤ l3 then am_run 243 84 [none, none, some (.ref l2), none, none] [] w else am_run 243 36 [some (.ref l0), some (.int l1), some (.ref l2), some (.int l3), none] [] w := by
  refine (bu (ls'' := [some (.ref l0), some (.int l1), some (.ref l2), some (.int l3), none]) (st' := [.int l3]) bf243_30 bf243_31 rfl rfl).trans ?_
  refine (bu (ls'' := [some (.ref l0), some (.int l1), some (.ref l2), some (.int l3), none]) (st' := [.int (nI 6), .int l3]) bf243_31 bf243_33 rfl rfl).trans ?_
  exact bic bf243_33 rfl bf243_84 bf243_36 rfl rfl rfl
theorem bk243_84 {w : am_Wd} {l2 : Nat} : am_run 243 84 [none, none, some (.ref l2), none, none] [] w = (am_kf w l2 1).bind fun _ => (am_x 238 [.ref l2] w).bind fun r => bct r fun v w' => am_run 243 88 [none, none, none, none, none] (v.toList ++ []) w' := by
  refine (bu (ls'' := [none, none, none, none, none]) (st' := [.ref l2]) bf243_84 bf243_85 rfl rfl).trans ?_
  exact bkV bf243_85 bf243_88 rfl (by decide +kernel) (Nat.le_of_ble_eq_true rfl) rfl (bhd rfl)
theorem bk243_36 {w : am_Wd} {l0 : Nat} {l1 : Int32} {l2 : Nat} {l3 : Int32} : am_run 243 36 [some (.ref l0), some (.int l1), some (.ref l2), some (.int l3), none] [] w = (am_kf w l0 8).bind fun _ => (am_x 94 [.ref l0, .int ((l1 * (nI 6)) + l3)] w).bind fun r => bct r fun v w' => am_run 243 51 [some (.ref l0), some (.int l1), some (.ref l2), some (.int l3), some (.int ((l1 * (nI 6)) + l3))] (v.toList ++ [.ref l2]) w' := by
  refine (bu (ls'' := [some (.ref l0), some (.int l1), some (.ref l2), some (.int l3), none]) (st' := [.int l1]) bf243_36 bf243_37 rfl rfl).trans ?_
  refine (bu (ls'' := [some (.ref l0), some (.int l1), some (.ref l2), some (.int l3), none]) (st' := [.int (nI 6), .int l1]) bf243_37 bf243_39 rfl rfl).trans ?_
  refine (bu (ls'' := [some (.ref l0), some (.int l1), some (.ref l2), some (.int l3), none]) (st' := [.int (l1 * (nI 6))]) bf243_39 bf243_40 rfl rfl).trans ?_
  refine (bu (ls'' := [some (.ref l0), some (.int l1), some (.ref l2), some (.int l3), none]) (st' := [.int l3, .int (l1 * (nI 6))]) bf243_40 bf243_41 rfl rfl).trans ?_
  refine (bu (ls'' := [some (.ref l0), some (.int l1), some (.ref l2), some (.int l3), none]) (st' := [.int ((l1 * (nI 6)) + l3)]) bf243_41 bf243_42 rfl rfl).trans ?_
  refine (bu (ls'' := [some (.ref l0), some (.int l1), some (.ref l2), some (.int l3), some (.int ((l1 * (nI 6)) + l3))]) (st' := []) bf243_42 bf243_44 rfl rfl).trans ?_
  refine (bu (ls'' := [some (.ref l0), some (.int l1), some (.ref l2), some (.int l3), some (.int ((l1 * (nI 6)) + l3))]) (st' := [.ref l2]) bf243_44 bf243_45 rfl rfl).trans ?_
  refine (bu (ls'' := [some (.ref l0), some (.int l1), some (.ref l2), some (.int l3), some (.int ((l1 * (nI 6)) + l3))]) (st' := [.ref l0, .ref l2]) bf243_45 bf243_46 rfl rfl).trans ?_
  refine (bu (ls'' := [some (.ref l0), some (.int l1), some (.ref l2), some (.int l3), some (.int ((l1 * (nI 6)) + l3))]) (st' := [.int ((l1 * (nI 6)) + l3), .ref l0, .ref l2]) bf243_46 bf243_48 rfl rfl).trans ?_
  exact bkV bf243_48 bf243_51 rfl (by decide +kernel) (Nat.le_of_ble_eq_true rfl) rfl (bhd rfl)
theorem bk243_88 {w : am_Wd} {s0 : Nat} : am_run 243 88 [none, none, none, none, none] [.ref s0] w = some (.inl (some (.ref s0)), w) := by
  exact am_e2 bf243_88 rfl (am_ge_rf w)
theorem bk243_51 {w : am_Wd} {l0 : Nat} {l1 : Int32} {l2 : Nat} {l3 : Int32} {l4 : Int32} {s0 : Int32} {s1 : Nat} : am_run 243 51 [some (.ref l0), some (.int l1), some (.ref l2), some (.int l3), some (.int l4)] [.int s0, .ref s1] w = (am_kf w s1 1).bind fun _ => (am_x 154 [.ref s1, .int s0] w).bind fun r => bct r fun v w' => am_run 243 54 [some (.ref l0), some (.int l1), some (.ref l2), some (.int l3), some (.int l4)] (v.toList ++ []) w' := by
  exact bkV bf243_51 bf243_54 rfl (by decide +kernel) (Nat.le_of_ble_eq_true rfl) rfl (bhd rfl)
theorem bk243_54 {w : am_Wd} {l0 : Nat} {l1 : Int32} {l2 : Nat} {l3 : Int32} {l4 : Int32} {s0 : Nat} : am_run 243 54 [some (.ref l0), some (.int l1), some (.ref l2), some (.int l3), some (.int l4)] [.ref s0] w = if (nI 5) ≤ l3 then am_run 243 78 [some (.ref l0), some (.int l1), some (.ref l2), some (.int l3), none] [] w else am_run 243 60 [some (.ref l0), some (.int l1), some (.ref l2), some (.int l3), some (.int l4)] [] w := by
  refine (bu (ls'' := [some (.ref l0), some (.int l1), some (.ref l2), some (.int l3), some (.int l4)]) (st' := []) bf243_54 bf243_55 rfl rfl).trans ?_
  refine (bu (ls'' := [some (.ref l0), some (.int l1), some (.ref l2), some (.int l3), some (.int l4)]) (st' := [.int l3]) bf243_55 bf243_56 rfl rfl).trans ?_
  refine (bu (ls'' := [some (.ref l0), some (.int l1), some (.ref l2), some (.int l3), some (.int l4)]) (st' := [.int (nI 5), .int l3]) bf243_56 bf243_57 rfl rfl).trans ?_
  exact bic bf243_57 rfl bf243_78 bf243_60 rfl rfl rfl
theorem bk243_78 {w : am_Wd} {l0 : Nat} {l1 : Int32} {l2 : Nat} {l3 : Int32} : am_run 243 78 [some (.ref l0), some (.int l1), some (.ref l2), some (.int l3), none] [] w = am_run 243 30 [some (.ref l0), some (.int l1), some (.ref l2), some (.int (l3 + (nI 1))), none] [] w := by
  refine (bu (ls'' := [some (.ref l0), some (.int l1), some (.ref l2), some (.int (l3 + (nI 1))), none]) (st' := []) bf243_78 bf243_81 rfl rfl).trans ?_
  refine (bu (ls'' := [some (.ref l0), some (.int l1), some (.ref l2), some (.int (l3 + (nI 1))), none]) (st' := []) bf243_81 bf243_30 rfl rfl).trans ?_
  rfl
theorem bk243_60 {w : am_Wd} {l0 : Nat} {l1 : Int32} {l2 : Nat} {l3 : Int32} {l4 : Int32} : am_run 243 60 [some (.ref l0), some (.int l1), some (.ref l2), some (.int l3), some (.int l4)] [] w = (am_gf w l0 8 0).bind fun v => am_run 243 65 [some (.ref l0), some (.int l1), some (.ref l2), some (.int l3), some (.int l4)] (v :: [.ref l2]) w := by
  refine (bu (ls'' := [some (.ref l0), some (.int l1), some (.ref l2), some (.int l3), some (.int l4)]) (st' := [.ref l2]) bf243_60 bf243_61 rfl rfl).trans ?_
  refine (bu (ls'' := [some (.ref l0), some (.int l1), some (.ref l2), some (.int l3), some (.int l4)]) (st' := [.ref l0, .ref l2]) bf243_61 bf243_62 rfl rfl).trans ?_
  exact bh bf243_62 bf243_65 rfl (fun _ _ => am_ge_rf w) rfl
theorem bk243_65 {w : am_Wd} {l0 : Nat} {l1 : Int32} {l2 : Nat} {l3 : Int32} {l4 : Int32} {s0 : Nat} {s1 : Nat} : am_run 243 65 [some (.ref l0), some (.int l1), some (.ref l2), some (.int l3), some (.int l4)] [.ref s0, .ref s1] w = (am_kf w s0 5).bind fun _ => (am_x 124 [.ref s0, .int l4, .int (nI 1)] w).bind fun r => bct r fun v w' => am_run 243 71 [some (.ref l0), some (.int l1), some (.ref l2), some (.int l3), none] (v.toList ++ [.ref s1]) w' := by
  refine (bu (ls'' := [some (.ref l0), some (.int l1), some (.ref l2), some (.int l3), none]) (st' := [.int l4, .ref s0, .ref s1]) bf243_65 bf243_67 rfl rfl).trans ?_
  refine (bu (ls'' := [some (.ref l0), some (.int l1), some (.ref l2), some (.int l3), none]) (st' := [.int (nI 1), .int l4, .ref s0, .ref s1]) bf243_67 bf243_68 rfl rfl).trans ?_
  exact bkV bf243_68 bf243_71 rfl (by decide +kernel) (Nat.le_of_ble_eq_true rfl) rfl (bhd rfl)
theorem bk243_71 {w : am_Wd} {l0 : Nat} {l1 : Int32} {l2 : Nat} {l3 : Int32} {s0 : Int32} {s1 : Nat} : am_run 243 71 [some (.ref l0), some (.int l1), some (.ref l2), some (.int l3), none] [.int s0, .ref s1] w = (am_x 34 [.int s0] w).bind fun r => bct r fun v w' => am_run 243 74 [some (.ref l0), some (.int l1), some (.ref l2), some (.int l3), none] (v.toList ++ [.ref s1]) w' := by
  exact bkS bf243_71 bf243_74 rfl (by decide +kernel) (Nat.le_of_ble_eq_true rfl) rfl (bhd rfl)
theorem bk243_74 {w : am_Wd} {l0 : Nat} {l1 : Int32} {l2 : Nat} {l3 : Int32} {s0 : Int32} {s1 : Nat} : am_run 243 74 [some (.ref l0), some (.int l1), some (.ref l2), some (.int l3), none] [.int s0, .ref s1] w = (am_kf w s1 1).bind fun _ => (am_x 154 [.ref s1, .int s0] w).bind fun r => bct r fun v w' => am_run 243 77 [some (.ref l0), some (.int l1), some (.ref l2), some (.int l3), none] (v.toList ++ []) w' := by
  exact bkV bf243_74 bf243_77 rfl (by decide +kernel) (Nat.le_of_ble_eq_true rfl) rfl (bhd rfl)
theorem bk243_77 {w : am_Wd} {l0 : Nat} {l1 : Int32} {l2 : Nat} {l3 : Int32} {s0 : Nat} : am_run 243 77 [some (.ref l0), some (.int l1), some (.ref l2), some (.int l3), none] [.ref s0] w = am_run 243 78 [some (.ref l0), some (.int l1), some (.ref l2), some (.int l3), none] [] w := by
  refine (bu (ls'' := [some (.ref l0), some (.int l1), some (.ref l2), some (.int l3), none]) (st' := []) bf243_77 bf243_78 rfl rfl).trans ?_
  rfl
theorem bf244_0 : am_fetch (am_mth 244) 0 = some (.lload_n 1, 1, [], [2, 4, 5, 6]) := by decide +kernel
theorem bf244_1 : am_fetch (am_mth 244) 1 = some (.lstore 4, 2, [], [1, 2, 4, 5, 6]) := by decide +kernel
theorem bf244_3 : am_fetch (am_mth 244) 3 = some (.iconst 0, 1, [], [1, 2, 5, 6]) := by decide +kernel
theorem bf244_4 : am_fetch (am_mth 244) 4 = some (.istore 6, 2, [], [1, 2, 5, 6]) := by decide +kernel
theorem bf244_6 : am_fetch (am_mth 244) 6 = some (.iload 6, 2, [], [1, 2, 5]) := by decide +kernel
theorem bf244_8 : am_fetch (am_mth 244) 8 = some (.bipush 12, 2, [], [1, 2, 5]) := by decide +kernel
theorem bf244_10 : am_fetch (am_mth 244) 10 = some (.if_icmp .gt 24, 3, [], [1, 2, 5]) := by decide +kernel
theorem bf244_13 : am_fetch (am_mth 244) 13 = some (.lload 4, 2, [], [1, 2, 5]) := by decide +kernel
theorem bf244_15 : am_fetch (am_mth 244) 15 = some (.aload_n 0, 1, [], [1, 2, 4, 5]) := by decide +kernel
theorem bf244_16 : am_fetch (am_mth 244) 16 = some (.iload_n 3, 1, [], [1, 2, 4, 5]) := by decide +kernel
theorem bf244_17 : am_fetch (am_mth 244) 17 = some (.iload 6, 2, [], [1, 2, 4, 5]) := by decide +kernel
theorem bf244_19 : am_fetch (am_mth 244) 19 = some (.invokevirtual 312, 3, [0, 201, 2, 8, 348, 349, 350, 46], [1, 2, 4, 5]) := by decide +kernel
theorem bf244_22 : am_fetch (am_mth 244) 22 = some (.i2l, 1, [], [1, 2, 4, 5]) := by decide +kernel
theorem bf244_23 : am_fetch (am_mth 244) 23 = some (.invokestatic 298, 3, [0, 25, 2, 303, 304, 46], [1, 2, 4, 5]) := by decide +kernel
theorem bf244_26 : am_fetch (am_mth 244) 26 = some (.lstore 4, 2, [], [1, 2, 4, 5]) := by decide +kernel
theorem bf244_28 : am_fetch (am_mth 244) 28 = some (.iinc 6 1, 3, [], [1, 2, 5]) := by decide +kernel
theorem bf244_31 : am_fetch (am_mth 244) 31 = some (.goto (-25), 3, [], [1, 2, 5]) := by decide +kernel
theorem bf244_34 : am_fetch (am_mth 244) 34 = some (.iconst 0, 1, [], [1, 2, 5, 6]) := by decide +kernel
theorem bf244_35 : am_fetch (am_mth 244) 35 = some (.istore 6, 2, [], [1, 2, 5, 6]) := by decide +kernel
theorem bf244_37 : am_fetch (am_mth 244) 37 = some (.iload 6, 2, [], [1, 2, 5]) := by decide +kernel
theorem bf244_39 : am_fetch (am_mth 244) 39 = some (.iconst 4, 1, [], [1, 2, 5]) := by decide +kernel
theorem bf244_40 : am_fetch (am_mth 244) 40 = some (.if_icmp .ge 23, 3, [], [1, 2, 5]) := by decide +kernel
theorem bf244_43 : am_fetch (am_mth 244) 43 = some (.lload 4, 2, [], [1, 2, 5]) := by decide +kernel
theorem bf244_45 : am_fetch (am_mth 244) 45 = some (.aload_n 0, 1, [], [1, 2, 4, 5]) := by decide +kernel
theorem bf244_46 : am_fetch (am_mth 244) 46 = some (.iload_n 3, 1, [], [1, 2, 4, 5]) := by decide +kernel
theorem bf244_47 : am_fetch (am_mth 244) 47 = some (.iload 6, 2, [], [1, 2, 4, 5]) := by decide +kernel
theorem bf244_49 : am_fetch (am_mth 244) 49 = some (.invokevirtual 315, 3, [0, 139, 2, 8, 368, 369, 370, 46], [1, 2, 4, 5]) := by decide +kernel
theorem bf244_52 : am_fetch (am_mth 244) 52 = some (.invokestatic 298, 3, [0, 25, 2, 303, 304, 46], [1, 2, 4, 5]) := by decide +kernel
theorem bf244_55 : am_fetch (am_mth 244) 55 = some (.lstore 4, 2, [], [1, 2, 4, 5]) := by decide +kernel
theorem bf244_57 : am_fetch (am_mth 244) 57 = some (.iinc 6 1, 3, [], [1, 2, 5]) := by decide +kernel
theorem bf244_60 : am_fetch (am_mth 244) 60 = some (.goto (-23), 3, [], [1, 2, 5]) := by decide +kernel
theorem bf244_63 : am_fetch (am_mth 244) 63 = some (.iconst 0, 1, [], [1, 2, 5, 6]) := by decide +kernel
theorem bf244_64 : am_fetch (am_mth 244) 64 = some (.istore 6, 2, [], [1, 2, 5, 6]) := by decide +kernel
theorem bf244_66 : am_fetch (am_mth 244) 66 = some (.iload 6, 2, [], [1, 2, 5]) := by decide +kernel
theorem bf244_68 : am_fetch (am_mth 244) 68 = some (.iconst 3, 1, [], [1, 2, 5]) := by decide +kernel
theorem bf244_69 : am_fetch (am_mth 244) 69 = some (.if_icmp .gt 24, 3, [], [1, 2, 5]) := by decide +kernel
theorem bf244_72 : am_fetch (am_mth 244) 72 = some (.lload 4, 2, [], [1, 2, 5]) := by decide +kernel
theorem bf244_74 : am_fetch (am_mth 244) 74 = some (.aload_n 0, 1, [], [1, 2, 4, 5]) := by decide +kernel
theorem bf244_75 : am_fetch (am_mth 244) 75 = some (.iload_n 3, 1, [], [1, 2, 4, 5]) := by decide +kernel
theorem bf244_76 : am_fetch (am_mth 244) 76 = some (.iload 6, 2, [], [1, 2, 4, 5]) := by decide +kernel
theorem bf244_78 : am_fetch (am_mth 244) 78 = some (.invokevirtual 319, 3, [0, 223, 2, 8, 372, 373, 374, 46], [1, 2, 4, 5]) := by decide +kernel
theorem bf244_81 : am_fetch (am_mth 244) 81 = some (.i2l, 1, [], [1, 2, 4, 5]) := by decide +kernel
theorem bf244_82 : am_fetch (am_mth 244) 82 = some (.invokestatic 298, 3, [0, 25, 2, 303, 304, 46], [1, 2, 4, 5]) := by decide +kernel
theorem bf244_85 : am_fetch (am_mth 244) 85 = some (.lstore 4, 2, [], [1, 2, 4, 5]) := by decide +kernel
theorem bf244_87 : am_fetch (am_mth 244) 87 = some (.iinc 6 1, 3, [], [1, 2, 5]) := by decide +kernel
theorem bf244_90 : am_fetch (am_mth 244) 90 = some (.goto (-24), 3, [], [1, 2, 5]) := by decide +kernel
theorem bf244_93 : am_fetch (am_mth 244) 93 = some (.iconst 0, 1, [], [1, 2, 5, 6]) := by decide +kernel
theorem bf244_94 : am_fetch (am_mth 244) 94 = some (.istore 6, 2, [], [1, 2, 5, 6]) := by decide +kernel
theorem bf244_96 : am_fetch (am_mth 244) 96 = some (.iload 6, 2, [], [1, 2, 5]) := by decide +kernel
theorem bf244_98 : am_fetch (am_mth 244) 98 = some (.iconst 4, 1, [], [1, 2, 5]) := by decide +kernel
theorem bf244_99 : am_fetch (am_mth 244) 99 = some (.if_icmp .ge 24, 3, [], [1, 2, 5]) := by decide +kernel
theorem bf244_102 : am_fetch (am_mth 244) 102 = some (.lload 4, 2, [], [1, 2, 5]) := by decide +kernel
theorem bf244_104 : am_fetch (am_mth 244) 104 = some (.aload_n 0, 1, [], [1, 2, 4, 5]) := by decide +kernel
theorem bf244_105 : am_fetch (am_mth 244) 105 = some (.iload_n 3, 1, [], [1, 2, 4, 5]) := by decide +kernel
theorem bf244_106 : am_fetch (am_mth 244) 106 = some (.iload 6, 2, [], [1, 2, 4, 5]) := by decide +kernel
theorem bf244_108 : am_fetch (am_mth 244) 108 = some (.invokevirtual 322, 3, [0, 202, 2, 8, 421, 422, 423, 46], [1, 2, 4, 5]) := by decide +kernel
theorem bf244_111 : am_fetch (am_mth 244) 111 = some (.i2l, 1, [], [1, 2, 4, 5]) := by decide +kernel
theorem bf244_112 : am_fetch (am_mth 244) 112 = some (.invokestatic 298, 3, [0, 25, 2, 303, 304, 46], [1, 2, 4, 5]) := by decide +kernel
theorem bf244_115 : am_fetch (am_mth 244) 115 = some (.lstore 4, 2, [], [1, 2, 4, 5]) := by decide +kernel
theorem bf244_117 : am_fetch (am_mth 244) 117 = some (.iinc 6 1, 3, [], [1, 2, 5]) := by decide +kernel
theorem bf244_120 : am_fetch (am_mth 244) 120 = some (.goto (-24), 3, [], [1, 2, 5]) := by decide +kernel
theorem bf244_123 : am_fetch (am_mth 244) 123 = some (.lload 4, 2, [], [1, 2, 5, 6]) := by decide +kernel
theorem bf244_125 : am_fetch (am_mth 244) 125 = some (.aload_n 0, 1, [], [1, 2, 4, 5, 6]) := by decide +kernel
theorem bf244_126 : am_fetch (am_mth 244) 126 = some (.iload_n 3, 1, [], [1, 2, 4, 5, 6]) := by decide +kernel
theorem bf244_127 : am_fetch (am_mth 244) 127 = some (.invokevirtual 325, 3, [0, 203, 1, 8, 459, 460, 461, 46], [1, 2, 4, 5, 6]) := by decide +kernel
theorem bf244_130 : am_fetch (am_mth 244) 130 = some (.i2l, 1, [], [1, 2, 4, 5, 6]) := by decide +kernel
theorem bf244_131 : am_fetch (am_mth 244) 131 = some (.invokestatic 298, 3, [0, 25, 2, 303, 304, 46], [1, 2, 4, 5, 6]) := by decide +kernel
theorem bf244_134 : am_fetch (am_mth 244) 134 = some (.lstore 4, 2, [], [1, 2, 4, 5, 6]) := by decide +kernel
theorem bf244_136 : am_fetch (am_mth 244) 136 = some (.lload 4, 2, [], [1, 2, 5, 6]) := by decide +kernel
theorem bf244_138 : am_fetch (am_mth 244) 138 = some (.ldc2_w 328, 3, [1, 4634204016564240384, 463], [1, 2, 4, 5, 6]) := by decide +kernel
theorem bf244_141 : am_fetch (am_mth 244) 141 = some (.aload_n 0, 1, [], [1, 2, 4, 5, 6]) := by decide +kernel
theorem bf244_142 : am_fetch (am_mth 244) 142 = some (.iload_n 3, 1, [], [1, 2, 4, 5, 6]) := by decide +kernel
theorem bf244_143 : am_fetch (am_mth 244) 143 = some (.invokevirtual 330, 3, [0, 91, 1, 8, 464, 465, 466, 46], [1, 2, 4, 5, 6]) := by decide +kernel
theorem bf244_146 : am_fetch (am_mth 244) 146 = some (.dmul, 1, [], [1, 2, 4, 5, 6]) := by decide +kernel
theorem bf244_147 : am_fetch (am_mth 244) 147 = some (.d2l, 1, [], [1, 2, 4, 5, 6]) := by decide +kernel
theorem bf244_148 : am_fetch (am_mth 244) 148 = some (.invokestatic 298, 3, [0, 25, 2, 303, 304, 46], [1, 2, 4, 5, 6]) := by decide +kernel
theorem bf244_151 : am_fetch (am_mth 244) 151 = some (.lstore 4, 2, [], [1, 2, 4, 5, 6]) := by decide +kernel
theorem bf244_153 : am_fetch (am_mth 244) 153 = some (.iconst 0, 1, [], [1, 2, 5, 6]) := by decide +kernel
theorem bf244_154 : am_fetch (am_mth 244) 154 = some (.istore 6, 2, [], [1, 2, 5, 6]) := by decide +kernel
theorem bf244_156 : am_fetch (am_mth 244) 156 = some (.iload 6, 2, [], [1, 2, 5]) := by decide +kernel
theorem bf244_158 : am_fetch (am_mth 244) 158 = some (.bipush 36, 2, [], [1, 2, 5]) := by decide +kernel
theorem bf244_160 : am_fetch (am_mth 244) 160 = some (.if_icmp .ge 41, 3, [], [1, 2, 5]) := by decide +kernel
theorem bf244_163 : am_fetch (am_mth 244) 163 = some (.lload 4, 2, [], [1, 2, 5]) := by decide +kernel
theorem bf244_165 : am_fetch (am_mth 244) 165 = some (.aload_n 0, 1, [], [1, 2, 4, 5]) := by decide +kernel
theorem bf244_166 : am_fetch (am_mth 244) 166 = some (.iload_n 3, 1, [], [1, 2, 4, 5]) := by decide +kernel
theorem bf244_167 : am_fetch (am_mth 244) 167 = some (.iload 6, 2, [], [1, 2, 4, 5]) := by decide +kernel
theorem bf244_169 : am_fetch (am_mth 244) 169 = some (.iconst 1, 1, [], [1, 2, 4, 5]) := by decide +kernel
theorem bf244_170 : am_fetch (am_mth 244) 170 = some (.invokevirtual 334, 3, [0, 137, 3, 8, 473, 474, 475, 46], [1, 2, 4, 5]) := by decide +kernel
theorem bf244_173 : am_fetch (am_mth 244) 173 = some (.i2l, 1, [], [1, 2, 4, 5]) := by decide +kernel
theorem bf244_174 : am_fetch (am_mth 244) 174 = some (.invokestatic 298, 3, [0, 25, 2, 303, 304, 46], [1, 2, 4, 5]) := by decide +kernel
theorem bf244_177 : am_fetch (am_mth 244) 177 = some (.lstore 4, 2, [], [1, 2, 4, 5]) := by decide +kernel
theorem bf244_179 : am_fetch (am_mth 244) 179 = some (.lload 4, 2, [], [1, 2, 5]) := by decide +kernel
theorem bf244_181 : am_fetch (am_mth 244) 181 = some (.aload_n 0, 1, [], [1, 2, 4, 5]) := by decide +kernel
theorem bf244_182 : am_fetch (am_mth 244) 182 = some (.iload_n 3, 1, [], [1, 2, 4, 5]) := by decide +kernel
theorem bf244_183 : am_fetch (am_mth 244) 183 = some (.iload 6, 2, [], [1, 2, 4, 5]) := by decide +kernel
theorem bf244_185 : am_fetch (am_mth 244) 185 = some (.iconst 2, 1, [], [1, 2, 4, 5]) := by decide +kernel
theorem bf244_186 : am_fetch (am_mth 244) 186 = some (.invokevirtual 334, 3, [0, 137, 3, 8, 473, 474, 475, 46], [1, 2, 4, 5]) := by decide +kernel
theorem bf244_189 : am_fetch (am_mth 244) 189 = some (.i2l, 1, [], [1, 2, 4, 5]) := by decide +kernel
theorem bf244_190 : am_fetch (am_mth 244) 190 = some (.invokestatic 298, 3, [0, 25, 2, 303, 304, 46], [1, 2, 4, 5]) := by decide +kernel
theorem bf244_193 : am_fetch (am_mth 244) 193 = some (.lstore 4, 2, [], [1, 2, 4, 5]) := by decide +kernel
theorem bf244_195 : am_fetch (am_mth 244) 195 = some (.iinc 6 1, 3, [], [1, 2, 5]) := by decide +kernel
theorem bf244_198 : am_fetch (am_mth 244) 198 = some (.goto (-42), 3, [], [1, 2, 5]) := by decide +kernel
theorem bf244_201 : am_fetch (am_mth 244) 201 = some (.lload 4, 2, [], [0, 1, 2, 3, 5, 6]) := by decide +kernel
theorem bf244_203 : am_fetch (am_mth 244) 203 = some (.lreturn, 1, [], [0, 1, 2, 3, 4, 5, 6]) := by decide +kernel
theorem bk244_0 {w : am_Wd} {l0 : Nat} {l1 : Int64} {l3 : Int32} : am_run 244 0 [some (.ref l0), some (.long l1), none, some (.int l3), none, none, none] [] w = am_run 244 6 [some (.ref l0), none, none, some (.int l3), some (.long l1), none, some (.int (nI 0))] [] w := by
  refine (bu (ls'' := [some (.ref l0), none, none, some (.int l3), none, none, none]) (st' := [.long l1]) bf244_0 bf244_1 rfl rfl).trans ?_
  refine (bu (ls'' := [some (.ref l0), none, none, some (.int l3), some (.long l1), none, none]) (st' := []) bf244_1 bf244_3 rfl rfl).trans ?_
  refine (bu (ls'' := [some (.ref l0), none, none, some (.int l3), some (.long l1), none, none]) (st' := [.int (nI 0)]) bf244_3 bf244_4 rfl rfl).trans ?_
  refine (bu (ls'' := [some (.ref l0), none, none, some (.int l3), some (.long l1), none, some (.int (nI 0))]) (st' := []) bf244_4 bf244_6 rfl rfl).trans ?_
  rfl
theorem bk244_6 {w : am_Wd} {l0 : Nat} {l3 : Int32} {l4 : Int64} {l6 : Int32} : am_run 244 6 [some (.ref l0), none, none, some (.int l3), some (.long l4), none, some (.int l6)] [] w = if (nI 12) < l6 then am_run 244 34 [some (.ref l0), none, none, some (.int l3), some (.long l4), none, none] [] w else am_run 244 13 [some (.ref l0), none, none, some (.int l3), some (.long l4), none, some (.int l6)] [] w := by
  refine (bu (ls'' := [some (.ref l0), none, none, some (.int l3), some (.long l4), none, some (.int l6)]) (st' := [.int l6]) bf244_6 bf244_8 rfl rfl).trans ?_
  refine (bu (ls'' := [some (.ref l0), none, none, some (.int l3), some (.long l4), none, some (.int l6)]) (st' := [.int (nI 12), .int l6]) bf244_8 bf244_10 rfl rfl).trans ?_
  exact bic bf244_10 rfl bf244_34 bf244_13 rfl rfl rfl
theorem bk244_34 {w : am_Wd} {l0 : Nat} {l3 : Int32} {l4 : Int64} : am_run 244 34 [some (.ref l0), none, none, some (.int l3), some (.long l4), none, none] [] w = am_run 244 37 [some (.ref l0), none, none, some (.int l3), some (.long l4), none, some (.int (nI 0))] [] w := by
  refine (bu (ls'' := [some (.ref l0), none, none, some (.int l3), some (.long l4), none, none]) (st' := [.int (nI 0)]) bf244_34 bf244_35 rfl rfl).trans ?_
  refine (bu (ls'' := [some (.ref l0), none, none, some (.int l3), some (.long l4), none, some (.int (nI 0))]) (st' := []) bf244_35 bf244_37 rfl rfl).trans ?_
  rfl
theorem bk244_13 {w : am_Wd} {l0 : Nat} {l3 : Int32} {l4 : Int64} {l6 : Int32} : am_run 244 13 [some (.ref l0), none, none, some (.int l3), some (.long l4), none, some (.int l6)] [] w = (am_kf w l0 8).bind fun _ => (am_x 201 [.ref l0, .int l3, .int l6] w).bind fun r => bct r fun v w' => am_run 244 22 [some (.ref l0), none, none, some (.int l3), none, none, some (.int l6)] (v.toList ++ [.long l4]) w' := by
  refine (bu (ls'' := [some (.ref l0), none, none, some (.int l3), none, none, some (.int l6)]) (st' := [.long l4]) bf244_13 bf244_15 rfl rfl).trans ?_
  refine (bu (ls'' := [some (.ref l0), none, none, some (.int l3), none, none, some (.int l6)]) (st' := [.ref l0, .long l4]) bf244_15 bf244_16 rfl rfl).trans ?_
  refine (bu (ls'' := [some (.ref l0), none, none, some (.int l3), none, none, some (.int l6)]) (st' := [.int l3, .ref l0, .long l4]) bf244_16 bf244_17 rfl rfl).trans ?_
  refine (bu (ls'' := [some (.ref l0), none, none, some (.int l3), none, none, some (.int l6)]) (st' := [.int l6, .int l3, .ref l0, .long l4]) bf244_17 bf244_19 rfl rfl).trans ?_
  exact bkV bf244_19 bf244_22 rfl (by decide +kernel) (Nat.le_of_ble_eq_true rfl) rfl (bhd rfl)
theorem bk244_37 {w : am_Wd} {l0 : Nat} {l3 : Int32} {l4 : Int64} {l6 : Int32} : am_run 244 37 [some (.ref l0), none, none, some (.int l3), some (.long l4), none, some (.int l6)] [] w = if (nI 4) ≤ l6 then am_run 244 63 [some (.ref l0), none, none, some (.int l3), some (.long l4), none, none] [] w else am_run 244 43 [some (.ref l0), none, none, some (.int l3), some (.long l4), none, some (.int l6)] [] w := by
  refine (bu (ls'' := [some (.ref l0), none, none, some (.int l3), some (.long l4), none, some (.int l6)]) (st' := [.int l6]) bf244_37 bf244_39 rfl rfl).trans ?_
  refine (bu (ls'' := [some (.ref l0), none, none, some (.int l3), some (.long l4), none, some (.int l6)]) (st' := [.int (nI 4), .int l6]) bf244_39 bf244_40 rfl rfl).trans ?_
  exact bic bf244_40 rfl bf244_63 bf244_43 rfl rfl rfl
theorem bk244_22 {w : am_Wd} {l0 : Nat} {l3 : Int32} {l6 : Int32} {s0 : Int32} {s1 : Int64} : am_run 244 22 [some (.ref l0), none, none, some (.int l3), none, none, some (.int l6)] [.int s0, .long s1] w = (am_x 25 [.long s1, .long (Int32.toInt64 s0)] w).bind fun r => bct r fun v w' => am_run 244 26 [some (.ref l0), none, none, some (.int l3), none, none, some (.int l6)] (v.toList ++ []) w' := by
  refine (bu (ls'' := [some (.ref l0), none, none, some (.int l3), none, none, some (.int l6)]) (st' := [.long (Int32.toInt64 s0), .long s1]) bf244_22 bf244_23 rfl rfl).trans ?_
  exact bkS bf244_23 bf244_26 rfl (by decide +kernel) (Nat.le_of_ble_eq_true rfl) rfl (bhd rfl)
theorem bk244_63 {w : am_Wd} {l0 : Nat} {l3 : Int32} {l4 : Int64} : am_run 244 63 [some (.ref l0), none, none, some (.int l3), some (.long l4), none, none] [] w = am_run 244 66 [some (.ref l0), none, none, some (.int l3), some (.long l4), none, some (.int (nI 0))] [] w := by
  refine (bu (ls'' := [some (.ref l0), none, none, some (.int l3), some (.long l4), none, none]) (st' := [.int (nI 0)]) bf244_63 bf244_64 rfl rfl).trans ?_
  refine (bu (ls'' := [some (.ref l0), none, none, some (.int l3), some (.long l4), none, some (.int (nI 0))]) (st' := []) bf244_64 bf244_66 rfl rfl).trans ?_
  rfl
theorem bk244_43 {w : am_Wd} {l0 : Nat} {l3 : Int32} {l4 : Int64} {l6 : Int32} : am_run 244 43 [some (.ref l0), none, none, some (.int l3), some (.long l4), none, some (.int l6)] [] w = (am_kf w l0 8).bind fun _ => (am_x 139 [.ref l0, .int l3, .int l6] w).bind fun r => bct r fun v w' => am_run 244 52 [some (.ref l0), none, none, some (.int l3), none, none, some (.int l6)] (v.toList ++ [.long l4]) w' := by
  refine (bu (ls'' := [some (.ref l0), none, none, some (.int l3), none, none, some (.int l6)]) (st' := [.long l4]) bf244_43 bf244_45 rfl rfl).trans ?_
  refine (bu (ls'' := [some (.ref l0), none, none, some (.int l3), none, none, some (.int l6)]) (st' := [.ref l0, .long l4]) bf244_45 bf244_46 rfl rfl).trans ?_
  refine (bu (ls'' := [some (.ref l0), none, none, some (.int l3), none, none, some (.int l6)]) (st' := [.int l3, .ref l0, .long l4]) bf244_46 bf244_47 rfl rfl).trans ?_
  refine (bu (ls'' := [some (.ref l0), none, none, some (.int l3), none, none, some (.int l6)]) (st' := [.int l6, .int l3, .ref l0, .long l4]) bf244_47 bf244_49 rfl rfl).trans ?_
  exact bkV bf244_49 bf244_52 rfl (by decide +kernel) (Nat.le_of_ble_eq_true rfl) rfl (bhd rfl)
theorem bk244_26 {w : am_Wd} {l0 : Nat} {l3 : Int32} {l6 : Int32} {s0 : Int64} : am_run 244 26 [some (.ref l0), none, none, some (.int l3), none, none, some (.int l6)] [.long s0] w = am_run 244 6 [some (.ref l0), none, none, some (.int l3), some (.long s0), none, some (.int (l6 + (nI 1)))] [] w := by
  refine (bu (ls'' := [some (.ref l0), none, none, some (.int l3), some (.long s0), none, some (.int l6)]) (st' := []) bf244_26 bf244_28 rfl rfl).trans ?_
  refine (bu (ls'' := [some (.ref l0), none, none, some (.int l3), some (.long s0), none, some (.int (l6 + (nI 1)))]) (st' := []) bf244_28 bf244_31 rfl rfl).trans ?_
  refine (bu (ls'' := [some (.ref l0), none, none, some (.int l3), some (.long s0), none, some (.int (l6 + (nI 1)))]) (st' := []) bf244_31 bf244_6 rfl rfl).trans ?_
  rfl
theorem bk244_66 {w : am_Wd} {l0 : Nat} {l3 : Int32} {l4 : Int64} {l6 : Int32} : am_run 244 66 [some (.ref l0), none, none, some (.int l3), some (.long l4), none, some (.int l6)] [] w = if (nI 3) < l6 then am_run 244 93 [some (.ref l0), none, none, some (.int l3), some (.long l4), none, none] [] w else am_run 244 72 [some (.ref l0), none, none, some (.int l3), some (.long l4), none, some (.int l6)] [] w := by
  refine (bu (ls'' := [some (.ref l0), none, none, some (.int l3), some (.long l4), none, some (.int l6)]) (st' := [.int l6]) bf244_66 bf244_68 rfl rfl).trans ?_
  refine (bu (ls'' := [some (.ref l0), none, none, some (.int l3), some (.long l4), none, some (.int l6)]) (st' := [.int (nI 3), .int l6]) bf244_68 bf244_69 rfl rfl).trans ?_
  exact bic bf244_69 rfl bf244_93 bf244_72 rfl rfl rfl
theorem bk244_52 {w : am_Wd} {l0 : Nat} {l3 : Int32} {l6 : Int32} {s0 : Int64} {s1 : Int64} : am_run 244 52 [some (.ref l0), none, none, some (.int l3), none, none, some (.int l6)] [.long s0, .long s1] w = (am_x 25 [.long s1, .long s0] w).bind fun r => bct r fun v w' => am_run 244 55 [some (.ref l0), none, none, some (.int l3), none, none, some (.int l6)] (v.toList ++ []) w' := by
  exact bkS bf244_52 bf244_55 rfl (by decide +kernel) (Nat.le_of_ble_eq_true rfl) rfl (bhd rfl)
theorem bk244_93 {w : am_Wd} {l0 : Nat} {l3 : Int32} {l4 : Int64} : am_run 244 93 [some (.ref l0), none, none, some (.int l3), some (.long l4), none, none] [] w = am_run 244 96 [some (.ref l0), none, none, some (.int l3), some (.long l4), none, some (.int (nI 0))] [] w := by
  refine (bu (ls'' := [some (.ref l0), none, none, some (.int l3), some (.long l4), none, none]) (st' := [.int (nI 0)]) bf244_93 bf244_94 rfl rfl).trans ?_
  refine (bu (ls'' := [some (.ref l0), none, none, some (.int l3), some (.long l4), none, some (.int (nI 0))]) (st' := []) bf244_94 bf244_96 rfl rfl).trans ?_
  rfl
theorem bk244_72 {w : am_Wd} {l0 : Nat} {l3 : Int32} {l4 : Int64} {l6 : Int32} : am_run 244 72 [some (.ref l0), none, none, some (.int l3), some (.long l4), none, some (.int l6)] [] w = (am_kf w l0 8).bind fun _ => (am_x 223 [.ref l0, .int l3, .int l6] w).bind fun r => bct r fun v w' => am_run 244 81 [some (.ref l0), none, none, some (.int l3), none, none, some (.int l6)] (v.toList ++ [.long l4]) w' := by
  refine (bu (ls'' := [some (.ref l0), none, none, some (.int l3), none, none, some (.int l6)]) (st' := [.long l4]) bf244_72 bf244_74 rfl rfl).trans ?_
  refine (bu (ls'' := [some (.ref l0), none, none, some (.int l3), none, none, some (.int l6)]) (st' := [.ref l0, .long l4]) bf244_74 bf244_75 rfl rfl).trans ?_
  refine (bu (ls'' := [some (.ref l0), none, none, some (.int l3), none, none, some (.int l6)]) (st' := [.int l3, .ref l0, .long l4]) bf244_75 bf244_76 rfl rfl).trans ?_
  refine (bu (ls'' := [some (.ref l0), none, none, some (.int l3), none, none, some (.int l6)]) (st' := [.int l6, .int l3, .ref l0, .long l4]) bf244_76 bf244_78 rfl rfl).trans ?_
  exact bkV bf244_78 bf244_81 rfl (by decide +kernel) (Nat.le_of_ble_eq_true rfl) rfl (bhd rfl)
theorem bk244_55 {w : am_Wd} {l0 : Nat} {l3 : Int32} {l6 : Int32} {s0 : Int64} : am_run 244 55 [some (.ref l0), none, none, some (.int l3), none, none, some (.int l6)] [.long s0] w = am_run 244 37 [some (.ref l0), none, none, some (.int l3), some (.long s0), none, some (.int (l6 + (nI 1)))] [] w := by
  refine (bu (ls'' := [some (.ref l0), none, none, some (.int l3), some (.long s0), none, some (.int l6)]) (st' := []) bf244_55 bf244_57 rfl rfl).trans ?_
  refine (bu (ls'' := [some (.ref l0), none, none, some (.int l3), some (.long s0), none, some (.int (l6 + (nI 1)))]) (st' := []) bf244_57 bf244_60 rfl rfl).trans ?_
  refine (bu (ls'' := [some (.ref l0), none, none, some (.int l3), some (.long s0), none, some (.int (l6 + (nI 1)))]) (st' := []) bf244_60 bf244_37 rfl rfl).trans ?_
  rfl
theorem bk244_96 {w : am_Wd} {l0 : Nat} {l3 : Int32} {l4 : Int64} {l6 : Int32} : am_run 244 96 [some (.ref l0), none, none, some (.int l3), some (.long l4), none, some (.int l6)] [] w = if (nI 4) ≤ l6 then am_run 244 123 [some (.ref l0), none, none, some (.int l3), some (.long l4), none, none] [] w else am_run 244 102 [some (.ref l0), none, none, some (.int l3), some (.long l4), none, some (.int l6)] [] w := by
  refine (bu (ls'' := [some (.ref l0), none, none, some (.int l3), some (.long l4), none, some (.int l6)]) (st' := [.int l6]) bf244_96 bf244_98 rfl rfl).trans ?_
  refine (bu (ls'' := [some (.ref l0), none, none, some (.int l3), some (.long l4), none, some (.int l6)]) (st' := [.int (nI 4), .int l6]) bf244_98 bf244_99 rfl rfl).trans ?_
  exact bic bf244_99 rfl bf244_123 bf244_102 rfl rfl rfl
theorem bk244_81 {w : am_Wd} {l0 : Nat} {l3 : Int32} {l6 : Int32} {s0 : Int32} {s1 : Int64} : am_run 244 81 [some (.ref l0), none, none, some (.int l3), none, none, some (.int l6)] [.int s0, .long s1] w = (am_x 25 [.long s1, .long (Int32.toInt64 s0)] w).bind fun r => bct r fun v w' => am_run 244 85 [some (.ref l0), none, none, some (.int l3), none, none, some (.int l6)] (v.toList ++ []) w' := by
  refine (bu (ls'' := [some (.ref l0), none, none, some (.int l3), none, none, some (.int l6)]) (st' := [.long (Int32.toInt64 s0), .long s1]) bf244_81 bf244_82 rfl rfl).trans ?_
  exact bkS bf244_82 bf244_85 rfl (by decide +kernel) (Nat.le_of_ble_eq_true rfl) rfl (bhd rfl)
theorem bk244_123 {w : am_Wd} {l0 : Nat} {l3 : Int32} {l4 : Int64} : am_run 244 123 [some (.ref l0), none, none, some (.int l3), some (.long l4), none, none] [] w = (am_kf w l0 8).bind fun _ => (am_x 203 [.ref l0, .int l3] w).bind fun r => bct r fun v w' => am_run 244 130 [some (.ref l0), none, none, some (.int l3), none, none, none] (v.toList ++ [.long l4]) w' := by
  refine (bu (ls'' := [some (.ref l0), none, none, some (.int l3), none, none, none]) (st' := [.long l4]) bf244_123 bf244_125 rfl rfl).trans ?_
  refine (bu (ls'' := [some (.ref l0), none, none, some (.int l3), none, none, none]) (st' := [.ref l0, .long l4]) bf244_125 bf244_126 rfl rfl).trans ?_
  refine (bu (ls'' := [some (.ref l0), none, none, some (.int l3), none, none, none]) (st' := [.int l3, .ref l0, .long l4]) bf244_126 bf244_127 rfl rfl).trans ?_
  exact bkV bf244_127 bf244_130 rfl (by decide +kernel) (Nat.le_of_ble_eq_true rfl) rfl (bhd rfl)
theorem bk244_102 {w : am_Wd} {l0 : Nat} {l3 : Int32} {l4 : Int64} {l6 : Int32} : am_run 244 102 [some (.ref l0), none, none, some (.int l3), some (.long l4), none, some (.int l6)] [] w = (am_kf w l0 8).bind fun _ => (am_x 202 [.ref l0, .int l3, .int l6] w).bind fun r => bct r fun v w' => am_run 244 111 [some (.ref l0), none, none, some (.int l3), none, none, some (.int l6)] (v.toList ++ [.long l4]) w' := by
  refine (bu (ls'' := [some (.ref l0), none, none, some (.int l3), none, none, some (.int l6)]) (st' := [.long l4]) bf244_102 bf244_104 rfl rfl).trans ?_
  refine (bu (ls'' := [some (.ref l0), none, none, some (.int l3), none, none, some (.int l6)]) (st' := [.ref l0, .long l4]) bf244_104 bf244_105 rfl rfl).trans ?_
  refine (bu (ls'' := [some (.ref l0), none, none, some (.int l3), none, none, some (.int l6)]) (st' := [.int l3, .ref l0, .long l4]) bf244_105 bf244_106 rfl rfl).trans ?_
  refine (bu (ls'' := [some (.ref l0), none, none, some (.int l3), none, none, some (.int l6)]) (st' := [.int l6, .int l3, .ref l0, .long l4]) bf244_106 bf244_108 rfl rfl).trans ?_
  exact bkV bf244_108 bf244_111 rfl (by decide +kernel) (Nat.le_of_ble_eq_true rfl) rfl (bhd rfl)
theorem bk244_85 {w : am_Wd} {l0 : Nat} {l3 : Int32} {l6 : Int32} {s0 : Int64} : am_run 244 85 [some (.ref l0), none, none, some (.int l3), none, none, some (.int l6)] [.long s0] w = am_run 244 66 [some (.ref l0), none, none, some (.int l3), some (.long s0), none, some (.int (l6 + (nI 1)))] [] w := by
  refine (bu (ls'' := [some (.ref l0), none, none, some (.int l3), some (.long s0), none, some (.int l6)]) (st' := []) bf244_85 bf244_87 rfl rfl).trans ?_
  refine (bu (ls'' := [some (.ref l0), none, none, some (.int l3), some (.long s0), none, some (.int (l6 + (nI 1)))]) (st' := []) bf244_87 bf244_90 rfl rfl).trans ?_
  refine (bu (ls'' := [some (.ref l0), none, none, some (.int l3), some (.long s0), none, some (.int (l6 + (nI 1)))]) (st' := []) bf244_90 bf244_66 rfl rfl).trans ?_
  rfl
theorem bk244_130 {w : am_Wd} {l0 : Nat} {l3 : Int32} {s0 : Int32} {s1 : Int64} : am_run 244 130 [some (.ref l0), none, none, some (.int l3), none, none, none] [.int s0, .long s1] w = (am_x 25 [.long s1, .long (Int32.toInt64 s0)] w).bind fun r => bct r fun v w' => am_run 244 134 [some (.ref l0), none, none, some (.int l3), none, none, none] (v.toList ++ []) w' := by
  refine (bu (ls'' := [some (.ref l0), none, none, some (.int l3), none, none, none]) (st' := [.long (Int32.toInt64 s0), .long s1]) bf244_130 bf244_131 rfl rfl).trans ?_
  exact bkS bf244_131 bf244_134 rfl (by decide +kernel) (Nat.le_of_ble_eq_true rfl) rfl (bhd rfl)
theorem bk244_111 {w : am_Wd} {l0 : Nat} {l3 : Int32} {l6 : Int32} {s0 : Int32} {s1 : Int64} : am_run 244 111 [some (.ref l0), none, none, some (.int l3), none, none, some (.int l6)] [.int s0, .long s1] w = (am_x 25 [.long s1, .long (Int32.toInt64 s0)] w).bind fun r => bct r fun v w' => am_run 244 115 [some (.ref l0), none, none, some (.int l3), none, none, some (.int l6)] (v.toList ++ []) w' := by
  refine (bu (ls'' := [some (.ref l0), none, none, some (.int l3), none, none, some (.int l6)]) (st' := [.long (Int32.toInt64 s0), .long s1]) bf244_111 bf244_112 rfl rfl).trans ?_
  exact bkS bf244_112 bf244_115 rfl (by decide +kernel) (Nat.le_of_ble_eq_true rfl) rfl (bhd rfl)
theorem bk244_134 {w : am_Wd} {l0 : Nat} {l3 : Int32} {s0 : Int64} : am_run 244 134 [some (.ref l0), none, none, some (.int l3), none, none, none] [.long s0] w = (am_kf w l0 8).bind fun _ => (am_x 91 [.ref l0, .int l3] w).bind fun r => bct r fun v w' => am_run 244 146 [some (.ref l0), none, none, some (.int l3), none, none, none] (v.toList ++ [.double (4634204016564240384 : UInt64), .long s0]) w' := by
  refine (bu (ls'' := [some (.ref l0), none, none, some (.int l3), some (.long s0), none, none]) (st' := []) bf244_134 bf244_136 rfl rfl).trans ?_
  refine (bu (ls'' := [some (.ref l0), none, none, some (.int l3), none, none, none]) (st' := [.long s0]) bf244_136 bf244_138 rfl rfl).trans ?_
  refine (bu (ls'' := [some (.ref l0), none, none, some (.int l3), none, none, none]) (st' := [.double (4634204016564240384 : UInt64), .long s0]) bf244_138 bf244_141 rfl rfl).trans ?_
  refine (bu (ls'' := [some (.ref l0), none, none, some (.int l3), none, none, none]) (st' := [.ref l0, .double (4634204016564240384 : UInt64), .long s0]) bf244_141 bf244_142 rfl rfl).trans ?_
  refine (bu (ls'' := [some (.ref l0), none, none, some (.int l3), none, none, none]) (st' := [.int l3, .ref l0, .double (4634204016564240384 : UInt64), .long s0]) bf244_142 bf244_143 rfl rfl).trans ?_
  exact bkV bf244_143 bf244_146 rfl (by decide +kernel) (Nat.le_of_ble_eq_true rfl) rfl (bhd rfl)
theorem bk244_115 {w : am_Wd} {l0 : Nat} {l3 : Int32} {l6 : Int32} {s0 : Int64} : am_run 244 115 [some (.ref l0), none, none, some (.int l3), none, none, some (.int l6)] [.long s0] w = am_run 244 96 [some (.ref l0), none, none, some (.int l3), some (.long s0), none, some (.int (l6 + (nI 1)))] [] w := by
  refine (bu (ls'' := [some (.ref l0), none, none, some (.int l3), some (.long s0), none, some (.int l6)]) (st' := []) bf244_115 bf244_117 rfl rfl).trans ?_
  refine (bu (ls'' := [some (.ref l0), none, none, some (.int l3), some (.long s0), none, some (.int (l6 + (nI 1)))]) (st' := []) bf244_117 bf244_120 rfl rfl).trans ?_
  refine (bu (ls'' := [some (.ref l0), none, none, some (.int l3), some (.long s0), none, some (.int (l6 + (nI 1)))]) (st' := []) bf244_120 bf244_96 rfl rfl).trans ?_
  rfl
theorem bk244_146 {w : am_Wd} {l0 : Nat} {l3 : Int32} {s0 : UInt64} {s1 : UInt64} {s2 : Int64} (hn : (FP.dmul s1 s0) &&& 0x7fffffffffffffff ≤ 0x7ff0000000000000) : am_run 244 146 [some (.ref l0), none, none, some (.int l3), none, none, none] [.double s0, .double s1, .long s2] w = am_run 244 147 [some (.ref l0), none, none, some (.int l3), none, none, none] [.double (FP.dmul s1 s0), .long s2] w := by
  exact bdd (h := inferInstance) bf244_146 bf244_147 (fun h => by unfold am_stp; exact if_pos h) rfl hn
theorem bk244_147 {w : am_Wd} {l0 : Nat} {l3 : Int32} {s0 : UInt64} {s1 : Int64} : am_run 244 147 [some (.ref l0), none, none, some (.int l3), none, none, none] [.double s0, .long s1] w = (am_x 25 [.long s1, .long (FP.d2l s0)] w).bind fun r => bct r fun v w' => am_run 244 151 [some (.ref l0), none, none, some (.int l3), none, none, none] (v.toList ++ []) w' := by
  refine (bu (ls'' := [some (.ref l0), none, none, some (.int l3), none, none, none]) (st' := [.long (FP.d2l s0), .long s1]) bf244_147 bf244_148 rfl rfl).trans ?_
  exact bkS bf244_148 bf244_151 rfl (by decide +kernel) (Nat.le_of_ble_eq_true rfl) rfl (bhd rfl)
theorem bk244_151 {w : am_Wd} {l0 : Nat} {l3 : Int32} {s0 : Int64} : am_run 244 151 [some (.ref l0), none, none, some (.int l3), none, none, none] [.long s0] w = am_run 244 156 [some (.ref l0), none, none, some (.int l3), some (.long s0), none, some (.int (nI 0))] [] w := by
  refine (bu (ls'' := [some (.ref l0), none, none, some (.int l3), some (.long s0), none, none]) (st' := []) bf244_151 bf244_153 rfl rfl).trans ?_
  refine (bu (ls'' := [some (.ref l0), none, none, some (.int l3), some (.long s0), none, none]) (st' := [.int (nI 0)]) bf244_153 bf244_154 rfl rfl).trans ?_
  refine (bu (ls'' := [some (.ref l0), none, none, some (.int l3), some (.long s0), none, some (.int (nI 0))]) (st' := []) bf244_154 bf244_156 rfl rfl).trans ?_
  rfl
theorem bk244_156 {w : am_Wd} {l0 : Nat} {l3 : Int32} {l4 : Int64} {l6 : Int32} : am_run 244 156 [some (.ref l0), none, none, some (.int l3), some (.long l4), none, some (.int l6)] [] w = if (nI 36) ≤ l6 then am_run 244 201 [none, none, none, none, some (.long l4), none, none] [] w else am_run 244 163 [some (.ref l0), none, none, some (.int l3), some (.long l4), none, some (.int l6)] [] w := by
  refine (bu (ls'' := [some (.ref l0), none, none, some (.int l3), some (.long l4), none, some (.int l6)]) (st' := [.int l6]) bf244_156 bf244_158 rfl rfl).trans ?_
  refine (bu (ls'' := [some (.ref l0), none, none, some (.int l3), some (.long l4), none, some (.int l6)]) (st' := [.int (nI 36), .int l6]) bf244_158 bf244_160 rfl rfl).trans ?_
  exact bic bf244_160 rfl bf244_201 bf244_163 rfl rfl rfl
theorem bk244_201 {w : am_Wd} {l4 : Int64} : am_run 244 201 [none, none, none, none, some (.long l4), none, none] [] w = some (.inl (some (.long l4)), w) := by
  refine (bu (ls'' := [none, none, none, none, none, none, none]) (st' := [.long l4]) bf244_201 bf244_203 rfl rfl).trans ?_
  exact am_e2 bf244_203 rfl (am_ge_rf w)
theorem bk244_163 {w : am_Wd} {l0 : Nat} {l3 : Int32} {l4 : Int64} {l6 : Int32} : am_run 244 163 [some (.ref l0), none, none, some (.int l3), some (.long l4), none, some (.int l6)] [] w = (am_kf w l0 8).bind fun _ => (am_x 137 [.ref l0, .int l3, .int l6, .int (nI 1)] w).bind fun r => bct r fun v w' => am_run 244 173 [some (.ref l0), none, none, some (.int l3), none, none, some (.int l6)] (v.toList ++ [.long l4]) w' := by
  refine (bu (ls'' := [some (.ref l0), none, none, some (.int l3), none, none, some (.int l6)]) (st' := [.long l4]) bf244_163 bf244_165 rfl rfl).trans ?_
  refine (bu (ls'' := [some (.ref l0), none, none, some (.int l3), none, none, some (.int l6)]) (st' := [.ref l0, .long l4]) bf244_165 bf244_166 rfl rfl).trans ?_
  refine (bu (ls'' := [some (.ref l0), none, none, some (.int l3), none, none, some (.int l6)]) (st' := [.int l3, .ref l0, .long l4]) bf244_166 bf244_167 rfl rfl).trans ?_
  refine (bu (ls'' := [some (.ref l0), none, none, some (.int l3), none, none, some (.int l6)]) (st' := [.int l6, .int l3, .ref l0, .long l4]) bf244_167 bf244_169 rfl rfl).trans ?_
  refine (bu (ls'' := [some (.ref l0), none, none, some (.int l3), none, none, some (.int l6)]) (st' := [.int (nI 1), .int l6, .int l3, .ref l0, .long l4]) bf244_169 bf244_170 rfl rfl).trans ?_
  exact bkV bf244_170 bf244_173 rfl (by decide +kernel) (Nat.le_of_ble_eq_true rfl) rfl (bhd rfl)
theorem bk244_173 {w : am_Wd} {l0 : Nat} {l3 : Int32} {l6 : Int32} {s0 : Int32} {s1 : Int64} : am_run 244 173 [some (.ref l0), none, none, some (.int l3), none, none, some (.int l6)] [.int s0, .long s1] w = (am_x 25 [.long s1, .long (Int32.toInt64 s0)] w).bind fun r => bct r fun v w' => am_run 244 177 [some (.ref l0), none, none, some (.int l3), none, none, some (.int l6)] (v.toList ++ []) w' := by
  refine (bu (ls'' := [some (.ref l0), none, none, some (.int l3), none, none, some (.int l6)]) (st' := [.long (Int32.toInt64 s0), .long s1]) bf244_173 bf244_174 rfl rfl).trans ?_
  exact bkS bf244_174 bf244_177 rfl (by decide +kernel) (Nat.le_of_ble_eq_true rfl) rfl (bhd rfl)
theorem bk244_177 {w : am_Wd} {l0 : Nat} {l3 : Int32} {l6 : Int32} {s0 : Int64} : am_run 244 177 [some (.ref l0), none, none, some (.int l3), none, none, some (.int l6)] [.long s0] w = (am_kf w l0 8).bind fun _ => (am_x 137 [.ref l0, .int l3, .int l6, .int (nI 2)] w).bind fun r => bct r fun v w' => am_run 244 189 [some (.ref l0), none, none, some (.int l3), none, none, some (.int l6)] (v.toList ++ [.long s0]) w' := by
  refine (bu (ls'' := [some (.ref l0), none, none, some (.int l3), some (.long s0), none, some (.int l6)]) (st' := []) bf244_177 bf244_179 rfl rfl).trans ?_
  refine (bu (ls'' := [some (.ref l0), none, none, some (.int l3), none, none, some (.int l6)]) (st' := [.long s0]) bf244_179 bf244_181 rfl rfl).trans ?_
  refine (bu (ls'' := [some (.ref l0), none, none, some (.int l3), none, none, some (.int l6)]) (st' := [.ref l0, .long s0]) bf244_181 bf244_182 rfl rfl).trans ?_
  refine (bu (ls'' := [some (.ref l0), none, none, some (.int l3), none, none, some (.int l6)]) (st' := [.int l3, .ref l0, .long s0]) bf244_182 bf244_183 rfl rfl).trans ?_
  refine (bu (ls'' := [some (.ref l0), none, none, some (.int l3), none, none, some (.int l6)]) (st' := [.int l6, .int l3, .ref l0, .long s0]) bf244_183 bf244_185 rfl rfl).trans ?_
  refine (bu (ls'' := [some (.ref l0), none, none, some (.int l3), none, none, some (.int l6)]) (st' := [.int (nI 2), .int l6, .int l3, .ref l0, .long s0]) bf244_185 bf244_186 rfl rfl).trans ?_
  exact bkV bf244_186 bf244_189 rfl (by decide +kernel) (Nat.le_of_ble_eq_true rfl) rfl (bhd rfl)
theorem bk244_189 {w : am_Wd} {l0 : Nat} {l3 : Int32} {l6 : Int32} {s0 : Int32} {s1 : Int64} : am_run 244 189 [some (.ref l0), none, none, some (.int l3), none, none, some (.int l6)] [.int s0, .long s1] w = (am_x 25 [.long s1, .long (Int32.toInt64 s0)] w).bind fun r => bct r fun v w' => am_run 244 193 [some (.ref l0), none, none, some (.int l3), none, none, some (.int l6)] (v.toList ++ []) w' := by
  refine (bu (ls'' := [some (.ref l0), none, none, some (.int l3), none, none, some (.int l6)]) (st' := [.long (Int32.toInt64 s0), .long s1]) bf244_189 bf244_190 rfl rfl).trans ?_
  exact bkS bf244_190 bf244_193 rfl (by decide +kernel) (Nat.le_of_ble_eq_true rfl) rfl (bhd rfl)
theorem bk244_193 {w : am_Wd} {l0 : Nat} {l3 : Int32} {l6 : Int32} {s0 : Int64} : am_run 244 193 [some (.ref l0), none, none, some (.int l3), none, none, some (.int l6)] [.long s0] w = am_run 244 156 [some (.ref l0), none, none, some (.int l3), some (.long s0), none, some (.int (l6 + (nI 1)))] [] w := by
  refine (bu (ls'' := [some (.ref l0), none, none, some (.int l3), some (.long s0), none, some (.int l6)]) (st' := []) bf244_193 bf244_195 rfl rfl).trans ?_
  refine (bu (ls'' := [some (.ref l0), none, none, some (.int l3), some (.long s0), none, some (.int (l6 + (nI 1)))]) (st' := []) bf244_195 bf244_198 rfl rfl).trans ?_
  refine (bu (ls'' := [some (.ref l0), none, none, some (.int l3), some (.long s0), none, some (.int (l6 + (nI 1)))]) (st' := []) bf244_198 bf244_156 rfl rfl).trans ?_
  rfl
theorem bf245_0 : am_fetch (am_mth 245) 0 = some (.aload_n 0, 1, [], []) := by decide +kernel
theorem bf245_1 : am_fetch (am_mth 245) 1 = some (.aload_n 1, 1, [], []) := by decide +kernel
theorem bf245_2 : am_fetch (am_mth 245) 2 = some (.invokevirtual 129, 3, [0, 226, 1, 11, 1423, 1425, 28, 48], []) := by decide +kernel
theorem bf245_5 : am_fetch (am_mth 245) 5 = some (.ifCond .ge 11, 3, [], []) := by decide +kernel
theorem bf245_8 : am_fetch (am_mth 245) 8 = some (.aload_n 0, 1, [], []) := by decide +kernel
theorem bf245_9 : am_fetch (am_mth 245) 9 = some (.aload_n 1, 1, [], [0]) := by decide +kernel
theorem bf245_10 : am_fetch (am_mth 245) 10 = some (.invokevirtual 129, 3, [0, 226, 1, 11, 1423, 1425, 28, 48], [0, 1]) := by decide +kernel
theorem bf245_13 : am_fetch (am_mth 245) 13 = some (.goto 12, 3, [], [0, 1]) := by decide +kernel
theorem bf245_16 : am_fetch (am_mth 245) 16 = some (.iconst 2, 1, [], []) := by decide +kernel
theorem bf245_17 : am_fetch (am_mth 245) 17 = some (.aload_n 0, 1, [], []) := by decide +kernel
theorem bf245_18 : am_fetch (am_mth 245) 18 = some (.aload_n 1, 1, [], [0]) := by decide +kernel
theorem bf245_19 : am_fetch (am_mth 245) 19 = some (.invokevirtual 129, 3, [0, 226, 1, 11, 1423, 1425, 28, 48], [0, 1]) := by decide +kernel
theorem bf245_22 : am_fetch (am_mth 245) 22 = some (.imul, 1, [], [0, 1]) := by decide +kernel
theorem bf245_23 : am_fetch (am_mth 245) 23 = some (.iconst 2, 1, [], [0, 1]) := by decide +kernel
theorem bf245_24 : am_fetch (am_mth 245) 24 = some (.iadd, 1, [], [0, 1]) := by decide +kernel
theorem bf245_25 : am_fetch (am_mth 245) 25 = some (.ireturn, 1, [0], [0, 1]) := by decide +kernel
theorem bk245_0 {w : am_Wd} {l0 : Nat} {l1 : Nat} : am_run 245 0 [some (.ref l0), some (.ref l1)] [] w = (am_kf w l0 11).bind fun _ => (am_x 226 [.ref l0, .ref l1] w).bind fun r => bct r fun v w' => am_run 245 5 [some (.ref l0), some (.ref l1)] (v.toList ++ []) w' := by
  refine (bu (ls'' := [some (.ref l0), some (.ref l1)]) (st' := [.ref l0]) bf245_0 bf245_1 rfl rfl).trans ?_
  refine (bu (ls'' := [some (.ref l0), some (.ref l1)]) (st' := [.ref l1, .ref l0]) bf245_1 bf245_2 rfl rfl).trans ?_
  exact bkV bf245_2 bf245_5 rfl (by decide +kernel) (Nat.le_of_ble_eq_true rfl) rfl (bhd rfl)
theorem bk245_5 {w : am_Wd} {l0 : Nat} {l1 : Nat} {s0 : Int32} : am_run 245 5 [some (.ref l0), some (.ref l1)] [.int s0] w = if nI 0 ≤ s0 then am_run 245 16 [some (.ref l0), some (.ref l1)] [] w else am_run 245 8 [some (.ref l0), some (.ref l1)] [] w := by
  exact bifc bf245_5 rfl bf245_16 bf245_8 rfl rfl rfl
theorem bk245_16 {w : am_Wd} {l0 : Nat} {l1 : Nat} : am_run 245 16 [some (.ref l0), some (.ref l1)] [] w = (am_kf w l0 11).bind fun _ => (am_x 226 [.ref l0, .ref l1] w).bind fun r => bct r fun v w' => am_run 245 22 [none, none] (v.toList ++ [.int (nI 2)]) w' := by
  refine (bu (ls'' := [some (.ref l0), some (.ref l1)]) (st' := [.int (nI 2)]) bf245_16 bf245_17 rfl rfl).trans ?_
  refine (bu (ls'' := [none, some (.ref l1)]) (st' := [.ref l0, .int (nI 2)]) bf245_17 bf245_18 rfl rfl).trans ?_
  refine (bu (ls'' := [none, none]) (st' := [.ref l1, .ref l0, .int (nI 2)]) bf245_18 bf245_19 rfl rfl).trans ?_
  exact bkV bf245_19 bf245_22 rfl (by decide +kernel) (Nat.le_of_ble_eq_true rfl) rfl (bhd rfl)
theorem bk245_8 {w : am_Wd} {l0 : Nat} {l1 : Nat} : am_run 245 8 [some (.ref l0), some (.ref l1)] [] w = (am_kf w l0 11).bind fun _ => (am_x 226 [.ref l0, .ref l1] w).bind fun r => bct r fun v w' => am_run 245 13 [none, none] (v.toList ++ []) w' := by
  refine (bu (ls'' := [none, some (.ref l1)]) (st' := [.ref l0]) bf245_8 bf245_9 rfl rfl).trans ?_
  refine (bu (ls'' := [none, none]) (st' := [.ref l1, .ref l0]) bf245_9 bf245_10 rfl rfl).trans ?_
  exact bkV bf245_10 bf245_13 rfl (by decide +kernel) (Nat.le_of_ble_eq_true rfl) rfl (bhd rfl)
theorem bk245_22 {w : am_Wd} {s0 : Int32} {s1 : Int32} : am_run 245 22 [none, none] [.int s0, .int s1] w = am_run 245 25 [none, none] [.int ((s1 * s0) + (nI 2))] w := by
  refine (bu (ls'' := [none, none]) (st' := [.int (s1 * s0)]) bf245_22 bf245_23 rfl rfl).trans ?_
  refine (bu (ls'' := [none, none]) (st' := [.int (nI 2), .int (s1 * s0)]) bf245_23 bf245_24 rfl rfl).trans ?_
  refine (bu (ls'' := [none, none]) (st' := [.int ((s1 * s0) + (nI 2))]) bf245_24 bf245_25 rfl rfl).trans ?_
  rfl
theorem bk245_13 {w : am_Wd} {s0 : Int32} : am_run 245 13 [none, none] [.int s0] w = am_run 245 25 [none, none] [.int s0] w := by
  refine (bu (ls'' := [none, none]) (st' := [.int s0]) bf245_13 bf245_25 rfl rfl).trans ?_
  rfl
theorem bk245_25 {w : am_Wd} {s0 : Int32} : am_run 245 25 [none, none] [.int s0] w = some (.inl (some (.int s0)), w) := by
  exact am_e2 bf245_25 rfl (am_ge_rf w)
theorem bf246_0 : am_fetch (am_mth 246) 0 = some (.aload_n 0, 1, [], [2, 3, 4, 5]) := by decide +kernel
theorem bf246_1 : am_fetch (am_mth 246) 1 = some (.iload_n 1, 1, [], [2, 3, 4, 5]) := by decide +kernel
theorem bf246_2 : am_fetch (am_mth 246) 2 = some (.iconst 0, 1, [], [2, 3, 4, 5]) := by decide +kernel
theorem bf246_3 : am_fetch (am_mth 246) 3 = some (.iconst 5, 1, [], [2, 3, 4, 5]) := by decide +kernel
theorem bf246_4 : am_fetch (am_mth 246) 4 = some (.invokestatic 42, 3, [0, 39, 3, 1245, 1246, 48], [2, 3, 4, 5]) := by decide +kernel
theorem bf246_7 : am_fetch (am_mth 246) 7 = some (.ifCond .ne 7, 3, [], [2, 3, 4, 5]) := by decide +kernel
theorem bf246_10 : am_fetch (am_mth 246) 10 = some (.iconst 1, 1, [], [2, 3, 4, 5]) := by decide +kernel
theorem bf246_11 : am_fetch (am_mth 246) 11 = some (.goto 4, 3, [], [2, 3, 4, 5]) := by decide +kernel
theorem bf246_14 : am_fetch (am_mth 246) 14 = some (.iconst 0, 1, [], [2, 3, 4, 5]) := by decide +kernel
theorem bf246_15 : am_fetch (am_mth 246) 15 = some (.iconst 1, 1, [], [2, 3, 4, 5]) := by decide +kernel
theorem bf246_16 : am_fetch (am_mth 246) 16 = some (.invokevirtual 83, 3, [0, 96, 2, 11, 1251, 1253, 18, 48], [2, 3, 4, 5]) := by decide +kernel
theorem bf246_19 : am_fetch (am_mth 246) 19 = some (.ifCond .eq 6, 3, [], [2, 3, 4, 5]) := by decide +kernel
theorem bf246_22 : am_fetch (am_mth 246) 22 = some (.ldc 239, 2, [1, 24, 1581], [0, 1, 2, 3, 4, 5]) := by decide +kernel
theorem bf246_24 : am_fetch (am_mth 246) 24 = some (.areturn, 1, [], [0, 1, 2, 3, 4, 5]) := by decide +kernel
theorem bf246_25 : am_fetch (am_mth 246) 25 = some (.new 241, 3, [0, 1, 4, 1582, 836, 74], [2, 3, 4, 5]) := by decide +kernel
theorem bf246_28 : am_fetch (am_mth 246) 28 = some (.dup, 1, [], [2, 3, 4, 5]) := by decide +kernel
theorem bf246_29 : am_fetch (am_mth 246) 29 = some (.invokespecial 243, 3, [0, 111, 0, 1583, 838, 74], [2, 3, 4, 5]) := by decide +kernel
theorem bf246_32 : am_fetch (am_mth 246) 32 = some (.astore_n 2, 1, [], [2, 3, 4, 5]) := by decide +kernel
theorem bf246_33 : am_fetch (am_mth 246) 33 = some (.bipush 6, 2, [], [3, 4, 5]) := by decide +kernel
theorem bf246_35 : am_fetch (am_mth 246) 35 = some (.iload_n 1, 1, [], [3, 4, 5]) := by decide +kernel
theorem bf246_36 : am_fetch (am_mth 246) 36 = some (.imul, 1, [], [3, 4, 5]) := by decide +kernel
theorem bf246_37 : am_fetch (am_mth 246) 37 = some (.istore_n 3, 1, [], [3, 4, 5]) := by decide +kernel
theorem bf246_38 : am_fetch (am_mth 246) 38 = some (.iload_n 3, 1, [], [4, 5]) := by decide +kernel
theorem bf246_39 : am_fetch (am_mth 246) 39 = some (.bipush 6, 2, [], [4, 5]) := by decide +kernel
theorem bf246_41 : am_fetch (am_mth 246) 41 = some (.iload_n 1, 1, [], [4, 5]) := by decide +kernel
theorem bf246_42 : am_fetch (am_mth 246) 42 = some (.imul, 1, [], [4, 5]) := by decide +kernel
theorem bf246_43 : am_fetch (am_mth 246) 43 = some (.bipush 6, 2, [], [4, 5]) := by decide +kernel
theorem bf246_45 : am_fetch (am_mth 246) 45 = some (.iadd, 1, [], [4, 5]) := by decide +kernel
theorem bf246_46 : am_fetch (am_mth 246) 46 = some (.if_icmp .ge 138, 3, [], [4, 5]) := by decide +kernel
theorem bf246_49 : am_fetch (am_mth 246) 49 = some (.iconst (-1), 1, [], [4, 5]) := by decide +kernel
theorem bf246_50 : am_fetch (am_mth 246) 50 = some (.istore 4, 2, [], [4, 5]) := by decide +kernel
theorem bf246_52 : am_fetch (am_mth 246) 52 = some (.aload_n 0, 1, [], [5]) := by decide +kernel
theorem bf246_53 : am_fetch (am_mth 246) 53 = some (.getfield 31, 3, [0, 11, 11, 1208], [5]) := by decide +kernel
theorem bf246_56 : am_fetch (am_mth 246) 56 = some (.invokevirtual 46, 3, [0, 56, 0, 3, 1291, 1292, 1293, 51], [5]) := by decide +kernel
theorem bf246_59 : am_fetch (am_mth 246) 59 = some (.iconst 1, 1, [], [5]) := by decide +kernel
theorem bf246_60 : am_fetch (am_mth 246) 60 = some (.isub, 1, [], [5]) := by decide +kernel
theorem bf246_61 : am_fetch (am_mth 246) 61 = some (.istore 5, 2, [], [5]) := by decide +kernel
theorem bf246_63 : am_fetch (am_mth 246) 63 = some (.iload 5, 2, [], []) := by decide +kernel
theorem bf246_65 : am_fetch (am_mth 246) 65 = some (.ifCond .lt 37, 3, [], []) := by decide +kernel
theorem bf246_68 : am_fetch (am_mth 246) 68 = some (.aload_n 0, 1, [], []) := by decide +kernel
theorem bf246_69 : am_fetch (am_mth 246) 69 = some (.getfield 31, 3, [0, 11, 11, 1208], []) := by decide +kernel
theorem bf246_72 : am_fetch (am_mth 246) 72 = some (.iload 5, 2, [], []) := by decide +kernel
theorem bf246_74 : am_fetch (am_mth 246) 74 = some (.invokevirtual 152, 3, [0, 150, 1, 3, 1391, 1392, 1393, 51], []) := by decide +kernel
theorem bf246_77 : am_fetch (am_mth 246) 77 = some (.checkcast 72, 3, [0, 10, 1295], []) := by decide +kernel
theorem bf246_80 : am_fetch (am_mth 246) 80 = some (.invokevirtual 160, 3, [0, 38, 0, 10, 1434, 1435, 1436, 66], []) := by decide +kernel
theorem bf246_83 : am_fetch (am_mth 246) 83 = some (.iload_n 3, 1, [], []) := by decide +kernel
theorem bf246_84 : am_fetch (am_mth 246) 84 = some (.if_icmp .ne 8, 3, [], []) := by decide +kernel
theorem bf246_87 : am_fetch (am_mth 246) 87 = some (.iload 5, 2, [], [4]) := by decide +kernel
theorem bf246_89 : am_fetch (am_mth 246) 89 = some (.goto 5, 3, [], [4]) := by decide +kernel
theorem bf246_92 : am_fetch (am_mth 246) 92 = some (.iload 4, 2, [], []) := by decide +kernel
theorem bf246_94 : am_fetch (am_mth 246) 94 = some (.istore 4, 2, [], [4]) := by decide +kernel
theorem bf246_96 : am_fetch (am_mth 246) 96 = some (.iinc 5 (-1), 3, [], []) := by decide +kernel
theorem bf246_99 : am_fetch (am_mth 246) 99 = some (.goto (-36), 3, [], []) := by decide +kernel
theorem bf246_102 : am_fetch (am_mth 246) 102 = some (.aload_n 2, 1, [], [5]) := by decide +kernel
theorem bf246_103 : am_fetch (am_mth 246) 103 = some (.iload 4, 2, [], [5]) := by decide +kernel
theorem bf246_105 : am_fetch (am_mth 246) 105 = some (.iconst (-1), 1, [], [5]) := by decide +kernel
theorem bf246_106 : am_fetch (am_mth 246) 106 = some (.if_icmp .eq 11, 3, [], [5]) := by decide +kernel
theorem bf246_109 : am_fetch (am_mth 246) 109 = some (.iload 4, 2, [], [5]) := by decide +kernel
theorem bf246_111 : am_fetch (am_mth 246) 111 = some (.invokestatic 244, 3, [0, 152, 1, 1584, 1585, 75], [4, 5]) := by decide +kernel
theorem bf246_114 : am_fetch (am_mth 246) 114 = some (.goto 33, 3, [], [4, 5]) := by decide +kernel
theorem bf246_117 : am_fetch (am_mth 246) 117 = some (.aload_n 0, 1, [], [4, 5]) := by decide +kernel
theorem bf246_118 : am_fetch (am_mth 246) 118 = some (.getfield 25, 3, [0, 11, 10, 1207], [4, 5]) := by decide +kernel
theorem bf246_121 : am_fetch (am_mth 246) 121 = some (.iload_n 3, 1, [], [4, 5]) := by decide +kernel
theorem bf246_122 : am_fetch (am_mth 246) 122 = some (.baload, 1, [2], [4, 5]) := by decide +kernel
theorem bf246_123 : am_fetch (am_mth 246) 123 = some (.ifCond .eq 8, 3, [], [4, 5]) := by decide +kernel
theorem bf246_126 : am_fetch (am_mth 246) 126 = some (.ldc 250, 2, [1, 25, 1598], [4, 5]) := by decide +kernel
theorem bf246_128 : am_fetch (am_mth 246) 128 = some (.goto 19, 3, [], [4, 5]) := by decide +kernel
theorem bf246_131 : am_fetch (am_mth 246) 131 = some (.aload_n 0, 1, [], [4, 5]) := by decide +kernel
theorem bf246_132 : am_fetch (am_mth 246) 132 = some (.getfield 21, 3, [0, 11, 9, 1206], [4, 5]) := by decide +kernel
theorem bf246_135 : am_fetch (am_mth 246) 135 = some (.iload_n 3, 1, [], [4, 5]) := by decide +kernel
theorem bf246_136 : am_fetch (am_mth 246) 136 = some (.baload, 1, [2], [4, 5]) := by decide +kernel
theorem bf246_137 : am_fetch (am_mth 246) 137 = some (.ifCond .eq 8, 3, [], [4, 5]) := by decide +kernel
theorem bf246_140 : am_fetch (am_mth 246) 140 = some (.ldc 252, 2, [1, 26, 1599], [4, 5]) := by decide +kernel
theorem bf246_142 : am_fetch (am_mth 246) 142 = some (.goto 5, 3, [], [4, 5]) := by decide +kernel
theorem bf246_145 : am_fetch (am_mth 246) 145 = some (.ldc 254, 2, [1, 27, 1600], [4, 5]) := by decide +kernel
theorem bf246_147 : am_fetch (am_mth 246) 147 = some (.invokevirtual 256, 3, [0, 222, 1, 1, 1601, 1037, 1038, 74], [4, 5]) := by decide +kernel
theorem bf246_150 : am_fetch (am_mth 246) 150 = some (.pop, 1, [], [4, 5]) := by decide +kernel
theorem bf246_151 : am_fetch (am_mth 246) 151 = some (.iload_n 3, 1, [], [4, 5]) := by decide +kernel
theorem bf246_152 : am_fetch (am_mth 246) 152 = some (.iconst 0, 1, [], [4, 5]) := by decide +kernel
theorem bf246_153 : am_fetch (am_mth 246) 153 = some (.invokestatic 87, 3, [0, 143, 2, 1273, 1274, 48], [4, 5]) := by decide +kernel
theorem bf246_156 : am_fetch (am_mth 246) 156 = some (.ifCond .eq 22, 3, [], [4, 5]) := by decide +kernel
theorem bf246_159 : am_fetch (am_mth 246) 159 = some (.aload_n 2, 1, [], [4, 5]) := by decide +kernel
theorem bf246_160 : am_fetch (am_mth 246) 160 = some (.ldc_w 260, 3, [1, 28, 1602], [4, 5]) := by decide +kernel
theorem bf246_163 : am_fetch (am_mth 246) 163 = some (.aload_n 0, 1, [], [4, 5]) := by decide +kernel
theorem bf246_164 : am_fetch (am_mth 246) 164 = some (.getfield 15, 3, [0, 11, 7, 1204], [4, 5]) := by decide +kernel
theorem bf246_167 : am_fetch (am_mth 246) 167 = some (.iload_n 3, 1, [], [4, 5]) := by decide +kernel
theorem bf246_168 : am_fetch (am_mth 246) 168 = some (.aaload, 1, [], [4, 5]) := by decide +kernel
theorem bf246_169 : am_fetch (am_mth 246) 169 = some (.iconst 0, 1, [], [4, 5]) := by decide +kernel
theorem bf246_170 : am_fetch (am_mth 246) 170 = some (.iaload, 1, [], [4, 5]) := by decide +kernel
theorem bf246_171 : am_fetch (am_mth 246) 171 = some (.invokevirtual 262, 3, [0, 196, 1, 0, 1603, 1604, 1605, 75], [4, 5]) := by decide +kernel
theorem bf246_174 : am_fetch (am_mth 246) 174 = some (.invokevirtual 266, 3, [0, 154, 1, 1, 1618, 871, 872, 74], [4, 5]) := by decide +kernel
theorem bf246_177 : am_fetch (am_mth 246) 177 = some (.pop, 1, [], [4, 5]) := by decide +kernel
theorem bf246_178 : am_fetch (am_mth 246) 178 = some (.iinc 3 1, 3, [], [4, 5]) := by decide +kernel
theorem bf246_181 : am_fetch (am_mth 246) 181 = some (.goto (-143), 3, [], [4, 5]) := by decide +kernel
theorem bf246_184 : am_fetch (am_mth 246) 184 = some (.aload_n 2, 1, [], [0, 1, 3, 4, 5]) := by decide +kernel
theorem bf246_185 : am_fetch (am_mth 246) 185 = some (.invokevirtual 269, 3, [0, 238, 0, 1, 1619, 963, 964, 74], [0, 1, 2, 3, 4, 5]) := by decide +kernel
theorem bf246_188 : am_fetch (am_mth 246) 188 = some (.areturn, 1, [], [0, 1, 2, 3, 4, 5]) := by decide +kernel
theorem bk246_0 {w : am_Wd} {l0 : Nat} {l1 : Int32} : am_run 246 0 [some (.ref l0), some (.int l1), none, none, none, none] [] w = (am_x 39 [.int l1, .int (nI 0), .int (nI 5)] w).bind fun r => bct r fun v w' => am_run 246 7 [some (.ref l0), some (.int l1), none, none, none, none] (v.toList ++ [.ref l0]) w' := by
  refine (bu (ls'' := [some (.ref l0), some (.int l1), none, none, none, none]) (st' := [.ref l0]) bf246_0 bf246_1 rfl rfl).trans ?_
  refine (bu (ls'' := [some (.ref l0), some (.int l1), none, none, none, none]) (st' := [.int l1, .ref l0]) bf246_1 bf246_2 rfl rfl).trans ?_
  refine (bu (ls'' := [some (.ref l0), some (.int l1), none, none, none, none]) (st' := [.int (nI 0), .int l1, .ref l0]) bf246_2 bf246_3 rfl rfl).trans ?_
  refine (bu (ls'' := [some (.ref l0), some (.int l1), none, none, none, none]) (st' := [.int (nI 5), .int (nI 0), .int l1, .ref l0]) bf246_3 bf246_4 rfl rfl).trans ?_
  exact bkS bf246_4 bf246_7 rfl (by decide +kernel) (Nat.le_of_ble_eq_true rfl) rfl (bhd rfl)
theorem bk246_7 {w : am_Wd} {l0 : Nat} {l1 : Int32} {s0 : Int32} {s1 : Nat} : am_run 246 7 [some (.ref l0), some (.int l1), none, none, none, none] [.int s0, .ref s1] w = if ¬ s0 = nI 0 then am_run 246 14 [some (.ref l0), some (.int l1), none, none, none, none] [.ref s1] w else am_run 246 10 [some (.ref l0), some (.int l1), none, none, none, none] [.ref s1] w := by
  exact bifc bf246_7 rfl bf246_14 bf246_10 rfl rfl rfl
theorem bk246_14 {w : am_Wd} {l0 : Nat} {l1 : Int32} {s0 : Nat} : am_run 246 14 [some (.ref l0), some (.int l1), none, none, none, none] [.ref s0] w = am_run 246 15 [some (.ref l0), some (.int l1), none, none, none, none] [.int (nI 0), .ref s0] w := by
  refine (bu (ls'' := [some (.ref l0), some (.int l1), none, none, none, none]) (st' := [.int (nI 0), .ref s0]) bf246_14 bf246_15 rfl rfl).trans ?_
  rfl
theorem bk246_10 {w : am_Wd} {l0 : Nat} {l1 : Int32} {s0 : Nat} : am_run 246 10 [some (.ref l0), some (.int l1), none, none, none, none] [.ref s0] w = am_run 246 15 [some (.ref l0), some (.int l1), none, none, none, none] [.int (nI 1), .ref s0] w := by
  refine (bu (ls'' := [some (.ref l0), some (.int l1), none, none, none, none]) (st' := [.int (nI 1), .ref s0]) bf246_10 bf246_11 rfl rfl).trans ?_
  refine (bu (ls'' := [some (.ref l0), some (.int l1), none, none, none, none]) (st' := [.int (nI 1), .ref s0]) bf246_11 bf246_15 rfl rfl).trans ?_
  rfl
theorem bk246_15 {w : am_Wd} {l0 : Nat} {l1 : Int32} {s0 : Int32} {s1 : Nat} : am_run 246 15 [some (.ref l0), some (.int l1), none, none, none, none] [.int s0, .ref s1] w = (am_kf w s1 11).bind fun _ => (am_x 96 [.ref s1, .int s0, .int (nI 1)] w).bind fun r => bct r fun v w' => am_run 246 19 [some (.ref l0), some (.int l1), none, none, none, none] (v.toList ++ []) w' := by
  refine (bu (ls'' := [some (.ref l0), some (.int l1), none, none, none, none]) (st' := [.int (nI 1), .int s0, .ref s1]) bf246_15 bf246_16 rfl rfl).trans ?_
  exact bkV bf246_16 bf246_19 rfl (by decide +kernel) (Nat.le_of_ble_eq_true rfl) rfl (bhd rfl)
theorem bk246_19 {w : am_Wd} {l0 : Nat} {l1 : Int32} {s0 : Int32} : am_run 246 19 [some (.ref l0), some (.int l1), none, none, none, none] [.int s0] w = if s0 = nI 0 then am_run 246 25 [some (.ref l0), some (.int l1), none, none, none, none] [] w else am_run 246 22 [none, none, none, none, none, none] [] w := by
  exact bifc bf246_19 rfl bf246_25 bf246_22 rfl rfl rfl
theorem bk246_25 {w : am_Wd} {l0 : Nat} {l1 : Int32} : am_run 246 25 [some (.ref l0), some (.int l1), none, none, none, none] [] w = am_run 246 28 [some (.ref l0), some (.int l1), none, none, none, none] (.ref w.2.1 :: []) (am_nw w (.inr (1, am_df 1 4)) 4) := by
  exact bn bf246_25 bf246_28 rfl rfl (am_ge_nw _ _ _)
theorem bk246_22 {w : am_Wd}  {sg : Nat} (hg : w.2.2.2 24 = some sg) : am_run 246 22 [none, none, none, none, none, none] [] w = am_run 246 24 [none, none, none, none, none, none] (.ref sg :: []) w := by
  exact bu (ls'' := [none, none, none, none, none, none]) (st' := .ref sg :: []) bf246_22 bf246_24 (by show some _ = _; rw [hg]; rfl) rfl
theorem bk246_28 {w : am_Wd} {l0 : Nat} {l1 : Int32} {s0 : Nat} : am_run 246 28 [some (.ref l0), some (.int l1), none, none, none, none] [.ref s0] w = (am_x 111 [.ref s0] w).bind fun r => bct r fun v w' => am_run 246 32 [some (.ref l0), some (.int l1), none, none, none, none] (v.toList ++ [.ref s0]) w' := by
  refine (bu (ls'' := [some (.ref l0), some (.int l1), none, none, none, none]) (st' := [.ref s0, .ref s0]) bf246_28 bf246_29 rfl rfl).trans ?_
  exact bkS bf246_29 bf246_32 rfl (by decide +kernel) (Nat.le_of_ble_eq_true rfl) rfl (bhd rfl)
theorem bk246_24 {w : am_Wd} {s0 : Nat} : am_run 246 24 [none, none, none, none, none, none] [.ref s0] w = some (.inl (some (.ref s0)), w) := by
  exact am_e2 bf246_24 rfl (am_ge_rf w)
theorem bk246_32 {w : am_Wd} {l0 : Nat} {l1 : Int32} {s0 : Nat} : am_run 246 32 [some (.ref l0), some (.int l1), none, none, none, none] [.ref s0] w = am_run 246 38 [some (.ref l0), some (.int l1), some (.ref s0), some (.int ((nI 6) * l1)), none, none] [] w := by
  refine (bu (ls'' := [some (.ref l0), some (.int l1), some (.ref s0), none, none, none]) (st' := []) bf246_32 bf246_33 rfl rfl).trans ?_
  refine (bu (ls'' := [some (.ref l0), some (.int l1), some (.ref s0), none, none, none]) (st' := [.int (nI 6)]) bf246_33 bf246_35 rfl rfl).trans ?_
  refine (bu (ls'' := [some (.ref l0), some (.int l1), some (.ref s0), none, none, none]) (st' := [.int l1, .int (nI 6)]) bf246_35 bf246_36 rfl rfl).trans ?_
  refine (bu (ls'' := [some (.ref l0), some (.int l1), some (.ref s0), none, none, none]) (st' := [.int ((nI 6) * l1)]) bf246_36 bf246_37 rfl rfl).trans ?_
  refine (bu (ls'' := [some (.ref l0), some (.int l1), some (.ref s0), some (.int ((nI 6) * l1)), none, none]) (st' := []) bf246_37 bf246_38 rfl rfl).trans ?_
  rfl
theorem bk246_38 {w : am_Wd} {l0 : Nat} {l1 : Int32} {l2 : Nat} {l3 : Int32} : am_run 246 38 [some (.ref l0), some (.int l1), some (.ref l2), some (.int l3), none, none] [] w = if (((nI 6) * l1) + (nI 6)) ≤ l3 then am_run 246 184 [none, none, some (.ref l2), none, none, none] [] w else am_run 246 49 [some (.ref l0), some (.int l1), some (.ref l2), some (.int l3), none, none] [] w := by
  refine (bu (ls'' := [some (.ref l0), some (.int l1), some (.ref l2), some (.int l3), none, none]) (st' := [.int l3]) bf246_38 bf246_39 rfl rfl).trans ?_
  refine (bu (ls'' := [some (.ref l0), some (.int l1), some (.ref l2), some (.int l3), none, none]) (st' := [.int (nI 6), .int l3]) bf246_39 bf246_41 rfl rfl).trans ?_
  refine (bu (ls'' := [some (.ref l0), some (.int l1), some (.ref l2), some (.int l3), none, none]) (st' := [.int l1, .int (nI 6), .int l3]) bf246_41 bf246_42 rfl rfl).trans ?_
  refine (bu (ls'' := [some (.ref l0), some (.int l1), some (.ref l2), some (.int l3), none, none]) (st' := [.int ((nI 6) * l1), .int l3]) bf246_42 bf246_43 rfl rfl).trans ?_
  refine (bu (ls'' := [some (.ref l0), some (.int l1), some (.ref l2), some (.int l3), none, none]) (st' := [.int (nI 6), .int ((nI 6) * l1), .int l3]) bf246_43 bf246_45 rfl rfl).trans ?_
  refine (bu (ls'' := [some (.ref l0), some (.int l1), some (.ref l2), some (.int l3), none, none]) (st' := [.int (((nI 6) * l1) + (nI 6)), .int l3]) bf246_45 bf246_46 rfl rfl).trans ?_
  exact bic bf246_46 rfl bf246_184 bf246_49 rfl rfl rfl
theorem bk246_184 {w : am_Wd} {l2 : Nat} : am_run 246 184 [none, none, some (.ref l2), none, none, none] [] w = (am_kf w l2 1).bind fun _ => (am_x 238 [.ref l2] w).bind fun r => bct r fun v w' => am_run 246 188 [none, none, none, none, none, none] (v.toList ++ []) w' := by
  refine (bu (ls'' := [none, none, none, none, none, none]) (st' := [.ref l2]) bf246_184 bf246_185 rfl rfl).trans ?_
  exact bkV bf246_185 bf246_188 rfl (by decide +kernel) (Nat.le_of_ble_eq_true rfl) rfl (bhd rfl)
theorem bk246_49 {w : am_Wd} {l0 : Nat} {l1 : Int32} {l2 : Nat} {l3 : Int32} : am_run 246 49 [some (.ref l0), some (.int l1), some (.ref l2), some (.int l3), none, none] [] w = (am_gf w l0 11 11).bind fun v => am_run 246 56 [some (.ref l0), some (.int l1), some (.ref l2), some (.int l3), some (.int (-1 : Int32)), none] (v :: []) w := by
  refine (bu (ls'' := [some (.ref l0), some (.int l1), some (.ref l2), some (.int l3), none, none]) (st' := [.int (-1 : Int32)]) bf246_49 bf246_50 rfl rfl).trans ?_
  refine (bu (ls'' := [some (.ref l0), some (.int l1), some (.ref l2), some (.int l3), some (.int (-1 : Int32)), none]) (st' := []) bf246_50 bf246_52 rfl rfl).trans ?_
  refine (bu (ls'' := [some (.ref l0), some (.int l1), some (.ref l2), some (.int l3), some (.int (-1 : Int32)), none]) (st' := [.ref l0]) bf246_52 bf246_53 rfl rfl).trans ?_
  exact bh bf246_53 bf246_56 rfl (fun _ _ => am_ge_rf w) rfl
theorem bk246_188 {w : am_Wd} {s0 : Nat} : am_run 246 188 [none, none, none, none, none, none] [.ref s0] w = some (.inl (some (.ref s0)), w) := by
  exact am_e2 bf246_188 rfl (am_ge_rf w)
theorem bk246_56 {w : am_Wd} {l0 : Nat} {l1 : Int32} {l2 : Nat} {l3 : Int32} {l4 : Int32} {s0 : Nat} : am_run 246 56 [some (.ref l0), some (.int l1), some (.ref l2), some (.int l3), some (.int l4), none] [.ref s0] w = (am_kf w s0 3).bind fun _ => (am_x 56 [.ref s0] w).bind fun r => bct r fun v w' => am_run 246 59 [some (.ref l0), some (.int l1), some (.ref l2), some (.int l3), some (.int l4), none] (v.toList ++ []) w' := by
  exact bkV bf246_56 bf246_59 rfl (by decide +kernel) (Nat.le_of_ble_eq_true rfl) rfl (bhd rfl)
theorem bk246_59 {w : am_Wd} {l0 : Nat} {l1 : Int32} {l2 : Nat} {l3 : Int32} {l4 : Int32} {s0 : Int32} : am_run 246 59 [some (.ref l0), some (.int l1), some (.ref l2), some (.int l3), some (.int l4), none] [.int s0] w = am_run 246 63 [some (.ref l0), some (.int l1), some (.ref l2), some (.int l3), some (.int l4), some (.int (s0 - (nI 1)))] [] w := by
  refine (bu (ls'' := [some (.ref l0), some (.int l1), some (.ref l2), some (.int l3), some (.int l4), none]) (st' := [.int (nI 1), .int s0]) bf246_59 bf246_60 rfl rfl).trans ?_
  refine (bu (ls'' := [some (.ref l0), some (.int l1), some (.ref l2), some (.int l3), some (.int l4), none]) (st' := [.int (s0 - (nI 1))]) bf246_60 bf246_61 rfl rfl).trans ?_
  refine (bu (ls'' := [some (.ref l0), some (.int l1), some (.ref l2), some (.int l3), some (.int l4), some (.int (s0 - (nI 1)))]) (st' := []) bf246_61 bf246_63 rfl rfl).trans ?_
  rfl
theorem bk246_63 {w : am_Wd} {l0 : Nat} {l1 : Int32} {l2 : Nat} {l3 : Int32} {l4 : Int32} {l5 : Int32} : am_run 246 63 [some (.ref l0), some (.int l1), some (.ref l2), some (.int l3), some (.int l4), some (.int l5)] [] w = if l5 < nI 0 then am_run 246 102 [some (.ref l0), some (.int l1), some (.ref l2), some (.int l3), some (.int l4), none] [] w else am_run 246 68 [some (.ref l0), some (.int l1), some (.ref l2), some (.int l3), some (.int l4), some (.int l5)] [] w := by
  refine (bu (ls'' := [some (.ref l0), some (.int l1), some (.ref l2), some (.int l3), some (.int l4), some (.int l5)]) (st' := [.int l5]) bf246_63 bf246_65 rfl rfl).trans ?_
  exact bifc bf246_65 rfl bf246_102 bf246_68 rfl rfl rfl
theorem bk246_102 {w : am_Wd} {l0 : Nat} {l1 : Int32} {l2 : Nat} {l3 : Int32} {l4 : Int32} : am_run 246 102 [some (.ref l0), some (.int l1), some (.ref l2), some (.int l3), some (.int l4), none] [] w = if l4 = (-1 : Int32) then am_run 246 117 [some (.ref l0), some (.int l1), some (.ref l2), some (.int l3), none, none] [.ref l2] w else am_run 246 109 [some (.ref l0), some (.int l1), some (.ref l2), some (.int l3), some (.int l4), none] [.ref l2] w := by
  refine (bu (ls'' := [some (.ref l0), some (.int l1), some (.ref l2), some (.int l3), some (.int l4), none]) (st' := [.ref l2]) bf246_102 bf246_103 rfl rfl).trans ?_
  refine (bu (ls'' := [some (.ref l0), some (.int l1), some (.ref l2), some (.int l3), some (.int l4), none]) (st' := [.int l4, .ref l2]) bf246_103 bf246_105 rfl rfl).trans ?_
  refine (bu (ls'' := [some (.ref l0), some (.int l1), some (.ref l2), some (.int l3), some (.int l4), none]) (st' := [.int (-1 : Int32), .int l4, .ref l2]) bf246_105 bf246_106 rfl rfl).trans ?_
  exact bic bf246_106 rfl bf246_117 bf246_109 rfl rfl rfl
theorem bk246_68 {w : am_Wd} {l0 : Nat} {l1 : Int32} {l2 : Nat} {l3 : Int32} {l4 : Int32} {l5 : Int32} : am_run 246 68 [some (.ref l0), some (.int l1), some (.ref l2), some (.int l3), some (.int l4), some (.int l5)] [] w = (am_gf w l0 11 11).bind fun v => am_run 246 72 [some (.ref l0), some (.int l1), some (.ref l2), some (.int l3), some (.int l4), some (.int l5)] (v :: []) w := by
  refine (bu (ls'' := [some (.ref l0), some (.int l1), some (.ref l2), some (.int l3), some (.int l4), some (.int l5)]) (st' := [.ref l0]) bf246_68 bf246_69 rfl rfl).trans ?_
  exact bh bf246_69 bf246_72 rfl (fun _ _ => am_ge_rf w) rfl
theorem bk246_117 {w : am_Wd} {l0 : Nat} {l1 : Int32} {l2 : Nat} {l3 : Int32} {s0 : Nat} : am_run 246 117 [some (.ref l0), some (.int l1), some (.ref l2), some (.int l3), none, none] [.ref s0] w = (am_gf w l0 11 10).bind fun v => am_run 246 121 [some (.ref l0), some (.int l1), some (.ref l2), some (.int l3), none, none] (v :: [.ref s0]) w := by
  refine (bu (ls'' := [some (.ref l0), some (.int l1), some (.ref l2), some (.int l3), none, none]) (st' := [.ref l0, .ref s0]) bf246_117 bf246_118 rfl rfl).trans ?_
  exact bh bf246_118 bf246_121 rfl (fun _ _ => am_ge_rf w) rfl
theorem bk246_109 {w : am_Wd} {l0 : Nat} {l1 : Int32} {l2 : Nat} {l3 : Int32} {l4 : Int32} {s0 : Nat} : am_run 246 109 [some (.ref l0), some (.int l1), some (.ref l2), some (.int l3), some (.int l4), none] [.ref s0] w = (am_x 152 [.int l4] w).bind fun r => bct r fun v w' => am_run 246 114 [some (.ref l0), some (.int l1), some (.ref l2), some (.int l3), none, none] (v.toList ++ [.ref s0]) w' := by
  refine (bu (ls'' := [some (.ref l0), some (.int l1), some (.ref l2), some (.int l3), none, none]) (st' := [.int l4, .ref s0]) bf246_109 bf246_111 rfl rfl).trans ?_
  exact bkS bf246_111 bf246_114 rfl (by decide +kernel) (Nat.le_of_ble_eq_true rfl) rfl (bhd rfl)
theorem bk246_72 {w : am_Wd} {l0 : Nat} {l1 : Int32} {l2 : Nat} {l3 : Int32} {l4 : Int32} {l5 : Int32} {s0 : Nat} : am_run 246 72 [some (.ref l0), some (.int l1), some (.ref l2), some (.int l3), some (.int l4), some (.int l5)] [.ref s0] w = (am_kf w s0 3).bind fun _ => (am_x 150 [.ref s0, .int l5] w).bind fun r => bct r fun v w' => am_run 246 77 [some (.ref l0), some (.int l1), some (.ref l2), some (.int l3), some (.int l4), some (.int l5)] (v.toList ++ []) w' := by
  refine (bu (ls'' := [some (.ref l0), some (.int l1), some (.ref l2), some (.int l3), some (.int l4), some (.int l5)]) (st' := [.int l5, .ref s0]) bf246_72 bf246_74 rfl rfl).trans ?_
  exact bkV bf246_74 bf246_77 rfl (by decide +kernel) (Nat.le_of_ble_eq_true rfl) rfl (bhd rfl)
theorem bk246_121 {w : am_Wd} {l0 : Nat} {l1 : Int32} {l2 : Nat} {l3 : Int32} {s0 : Nat} {s1 : Nat} : am_run 246 121 [some (.ref l0), some (.int l1), some (.ref l2), some (.int l3), none, none] [.ref s0, .ref s1] w = (am_ri 2 w s0 l3).bind fun v => am_run 246 123 [some (.ref l0), some (.int l1), some (.ref l2), some (.int l3), none, none] (.int v :: [.ref s1]) w := by
  refine (bu (ls'' := [some (.ref l0), some (.int l1), some (.ref l2), some (.int l3), none, none]) (st' := [.int l3, .ref s0, .ref s1]) bf246_121 bf246_122 rfl rfl).trans ?_
  exact bh bf246_122 bf246_123 rfl (fun _ _ => am_ge_rf w) rfl
theorem bk246_114 {w : am_Wd} {l0 : Nat} {l1 : Int32} {l2 : Nat} {l3 : Int32} {s0 : Nat} {s1 : Nat} : am_run 246 114 [some (.ref l0), some (.int l1), some (.ref l2), some (.int l3), none, none] [.ref s0, .ref s1] w = am_run 246 147 [some (.ref l0), some (.int l1), some (.ref l2), some (.int l3), none, none] [.ref s0, .ref s1] w := by
  refine (bu (ls'' := [some (.ref l0), some (.int l1), some (.ref l2), some (.int l3), none, none]) (st' := [.ref s0, .ref s1]) bf246_114 bf246_147 rfl rfl).trans ?_
  rfl
theorem bk246_77 {w : am_Wd} {l0 : Nat} {l1 : Int32} {l2 : Nat} {l3 : Int32} {l4 : Int32} {l5 : Int32} {s0 : Nat} : am_run 246 77 [some (.ref l0), some (.int l1), some (.ref l2), some (.int l3), some (.int l4), some (.int l5)] [.ref s0] w = (am_kf w s0 10).bind fun _ => am_run 246 80 [some (.ref l0), some (.int l1), some (.ref l2), some (.int l3), some (.int l4), some (.int l5)] [.ref s0] w := by
  exact bh bf246_77 bf246_80 rfl (fun _ _ => am_ge_rf w) rfl
theorem bk246_123 {w : am_Wd} {l0 : Nat} {l1 : Int32} {l2 : Nat} {l3 : Int32} {s0 : Int32} {s1 : Nat} : am_run 246 123 [some (.ref l0), some (.int l1), some (.ref l2), some (.int l3), none, none] [.int s0, .ref s1] w = if s0 = nI 0 then am_run 246 131 [some (.ref l0), some (.int l1), some (.ref l2), some (.int l3), none, none] [.ref s1] w else am_run 246 126 [some (.ref l0), some (.int l1), some (.ref l2), some (.int l3), none, none] [.ref s1] w := by
  exact bifc bf246_123 rfl bf246_131 bf246_126 rfl rfl rfl
theorem bk246_147 {w : am_Wd} {l0 : Nat} {l1 : Int32} {l2 : Nat} {l3 : Int32} {s0 : Nat} {s1 : Nat} : am_run 246 147 [some (.ref l0), some (.int l1), some (.ref l2), some (.int l3), none, none] [.ref s0, .ref s1] w = (am_kf w s1 1).bind fun _ => (am_x 222 [.ref s1, .ref s0] w).bind fun r => bct r fun v w' => am_run 246 150 [some (.ref l0), some (.int l1), some (.ref l2), some (.int l3), none, none] (v.toList ++ []) w' := by
  exact bkV bf246_147 bf246_150 rfl (by decide +kernel) (Nat.le_of_ble_eq_true rfl) rfl (bhd rfl)
theorem bk246_80 {w : am_Wd} {l0 : Nat} {l1 : Int32} {l2 : Nat} {l3 : Int32} {l4 : Int32} {l5 : Int32} {s0 : Nat} : am_run 246 80 [some (.ref l0), some (.int l1), some (.ref l2), some (.int l3), some (.int l4), some (.int l5)] [.ref s0] w = (am_kf w s0 10).bind fun _ => (am_x 38 [.ref s0] w).bind fun r => bct r fun v w' => am_run 246 83 [some (.ref l0), some (.int l1), some (.ref l2), some (.int l3), some (.int l4), some (.int l5)] (v.toList ++ []) w' := by
  exact bkV bf246_80 bf246_83 rfl (by decide +kernel) (Nat.le_of_ble_eq_true rfl) rfl (bhd rfl)
theorem bk246_131 {w : am_Wd} {l0 : Nat} {l1 : Int32} {l2 : Nat} {l3 : Int32} {s0 : Nat} : am_run 246 131 [some (.ref l0), some (.int l1), some (.ref l2), some (.int l3), none, none] [.ref s0] w = (am_gf w l0 11 9).bind fun v => am_run 246 135 [some (.ref l0), some (.int l1), some (.ref l2), some (.int l3), none, none] (v :: [.ref s0]) w := by
  refine (bu (ls'' := [some (.ref l0), some (.int l1), some (.ref l2), some (.int l3), none, none]) (st' := [.ref l0, .ref s0]) bf246_131 bf246_132 rfl rfl).trans ?_
  exact bh bf246_132 bf246_135 rfl (fun _ _ => am_ge_rf w) rfl
theorem bk246_126 {w : am_Wd} {l0 : Nat} {l1 : Int32} {l2 : Nat} {l3 : Int32} {s0 : Nat} {sg : Nat} (hg : w.2.2.2 25 = some sg) : am_run 246 126 [some (.ref l0), some (.int l1), some (.ref l2), some (.int l3), none, none] [.ref s0] w = am_run 246 128 [some (.ref l0), some (.int l1), some (.ref l2), some (.int l3), none, none] (.ref sg :: [.ref s0]) w := by
  exact bu (ls'' := [some (.ref l0), some (.int l1), some (.ref l2), some (.int l3), none, none]) (st' := .ref sg :: [.ref s0]) bf246_126 bf246_128 (by show some _ = _; rw [hg]; rfl) rfl
theorem bk246_150 {w : am_Wd} {l0 : Nat} {l1 : Int32} {l2 : Nat} {l3 : Int32} {s0 : Nat} : am_run 246 150 [some (.ref l0), some (.int l1), some (.ref l2), some (.int l3), none, none] [.ref s0] w = (am_x 143 [.int l3, .int (nI 0)] w).bind fun r => bct r fun v w' => am_run 246 156 [some (.ref l0), some (.int l1), some (.ref l2), some (.int l3), none, none] (v.toList ++ []) w' := by
  refine (bu (ls'' := [some (.ref l0), some (.int l1), some (.ref l2), some (.int l3), none, none]) (st' := []) bf246_150 bf246_151 rfl rfl).trans ?_
  refine (bu (ls'' := [some (.ref l0), some (.int l1), some (.ref l2), some (.int l3), none, none]) (st' := [.int l3]) bf246_151 bf246_152 rfl rfl).trans ?_
  refine (bu (ls'' := [some (.ref l0), some (.int l1), some (.ref l2), some (.int l3), none, none]) (st' := [.int (nI 0), .int l3]) bf246_152 bf246_153 rfl rfl).trans ?_
  exact bkS bf246_153 bf246_156 rfl (by decide +kernel) (Nat.le_of_ble_eq_true rfl) rfl (bhd rfl)
theorem bk246_83 {w : am_Wd} {l0 : Nat} {l1 : Int32} {l2 : Nat} {l3 : Int32} {l4 : Int32} {l5 : Int32} {s0 : Int32} : am_run 246 83 [some (.ref l0), some (.int l1), some (.ref l2), some (.int l3), some (.int l4), some (.int l5)] [.int s0] w = if ¬ s0 = l3 then am_run 246 92 [some (.ref l0), some (.int l1), some (.ref l2), some (.int l3), some (.int l4), some (.int l5)] [] w else am_run 246 87 [some (.ref l0), some (.int l1), some (.ref l2), some (.int l3), none, some (.int l5)] [] w := by
  refine (bu (ls'' := [some (.ref l0), some (.int l1), some (.ref l2), some (.int l3), some (.int l4), some (.int l5)]) (st' := [.int l3, .int s0]) bf246_83 bf246_84 rfl rfl).trans ?_
  exact bic bf246_84 rfl bf246_92 bf246_87 rfl rfl rfl
theorem bk246_135 {w : am_Wd} {l0 : Nat} {l1 : Int32} {l2 : Nat} {l3 : Int32} {s0 : Nat} {s1 : Nat} : am_run 246 135 [some (.ref l0), some (.int l1), some (.ref l2), some (.int l3), none, none] [.ref s0, .ref s1] w = (am_ri 2 w s0 l3).bind fun v => am_run 246 137 [some (.ref l0), some (.int l1), some (.ref l2), some (.int l3), none, none] (.int v :: [.ref s1]) w := by
  refine (bu (ls'' := [some (.ref l0), some (.int l1), some (.ref l2), some (.int l3), none, none]) (st' := [.int l3, .ref s0, .ref s1]) bf246_135 bf246_136 rfl rfl).trans ?_
  exact bh bf246_136 bf246_137 rfl (fun _ _ => am_ge_rf w) rfl
theorem bk246_128 {w : am_Wd} {l0 : Nat} {l1 : Int32} {l2 : Nat} {l3 : Int32} {s0 : Nat} {s1 : Nat} : am_run 246 128 [some (.ref l0), some (.int l1), some (.ref l2), some (.int l3), none, none] [.ref s0, .ref s1] w = am_run 246 147 [some (.ref l0), some (.int l1), some (.ref l2), some (.int l3), none, none] [.ref s0, .ref s1] w := by
  refine (bu (ls'' := [some (.ref l0), some (.int l1), some (.ref l2), some (.int l3), none, none]) (st' := [.ref s0, .ref s1]) bf246_128 bf246_147 rfl rfl).trans ?_
  rfl
theorem bk246_156 {w : am_Wd} {l0 : Nat} {l1 : Int32} {l2 : Nat} {l3 : Int32} {s0 : Int32} : am_run 246 156 [some (.ref l0), some (.int l1), some (.ref l2), some (.int l3), none, none] [.int s0] w = if s0 = nI 0 then am_run 246 178 [some (.ref l0), some (.int l1), some (.ref l2), some (.int l3), none, none] [] w else am_run 246 159 [some (.ref l0), some (.int l1), some (.ref l2), some (.int l3), none, none] [] w := by
  exact bifc bf246_156 rfl bf246_178 bf246_159 rfl rfl rfl
theorem bk246_92 {w : am_Wd} {l0 : Nat} {l1 : Int32} {l2 : Nat} {l3 : Int32} {l4 : Int32} {l5 : Int32} : am_run 246 92 [some (.ref l0), some (.int l1), some (.ref l2), some (.int l3), some (.int l4), some (.int l5)] [] w = am_run 246 94 [some (.ref l0), some (.int l1), some (.ref l2), some (.int l3), none, some (.int l5)] [.int l4] w := by
  refine (bu (ls'' := [some (.ref l0), some (.int l1), some (.ref l2), some (.int l3), none, some (.int l5)]) (st' := [.int l4]) bf246_92 bf246_94 rfl rfl).trans ?_
  rfl
theorem bk246_87 {w : am_Wd} {l0 : Nat} {l1 : Int32} {l2 : Nat} {l3 : Int32} {l5 : Int32} : am_run 246 87 [some (.ref l0), some (.int l1), some (.ref l2), some (.int l3), none, some (.int l5)] [] w = am_run 246 94 [some (.ref l0), some (.int l1), some (.ref l2), some (.int l3), none, some (.int l5)] [.int l5] w := by
  refine (bu (ls'' := [some (.ref l0), some (.int l1), some (.ref l2), some (.int l3), none, some (.int l5)]) (st' := [.int l5]) bf246_87 bf246_89 rfl rfl).trans ?_
  refine (bu (ls'' := [some (.ref l0), some (.int l1), some (.ref l2), some (.int l3), none, some (.int l5)]) (st' := [.int l5]) bf246_89 bf246_94 rfl rfl).trans ?_
  rfl
theorem bk246_137 {w : am_Wd} {l0 : Nat} {l1 : Int32} {l2 : Nat} {l3 : Int32} {s0 : Int32} {s1 : Nat} : am_run 246 137 [some (.ref l0), some (.int l1), some (.ref l2), some (.int l3), none, none] [.int s0, .ref s1] w = if s0 = nI 0 then am_run 246 145 [some (.ref l0), some (.int l1), some (.ref l2), some (.int l3), none, none] [.ref s1] w else am_run 246 140 [some (.ref l0), some (.int l1), some (.ref l2), some (.int l3), none, none] [.ref s1] w := by
  exact bifc bf246_137 rfl bf246_145 bf246_140 rfl rfl rfl
theorem bk246_178 {w : am_Wd} {l0 : Nat} {l1 : Int32} {l2 : Nat} {l3 : Int32} : am_run 246 178 [some (.ref l0), some (.int l1), some (.ref l2), some (.int l3), none, none] [] w = am_run 246 38 [some (.ref l0), some (.int l1), some (.ref l2), some (.int (l3 + (nI 1))), none, none] [] w := by
  refine (bu (ls'' := [some (.ref l0), some (.int l1), some (.ref l2), some (.int (l3 + (nI 1))), none, none]) (st' := []) bf246_178 bf246_181 rfl rfl).trans ?_
  refine (bu (ls'' := [some (.ref l0), some (.int l1), some (.ref l2), some (.int (l3 + (nI 1))), none, none]) (st' := []) bf246_181 bf246_38 rfl rfl).trans ?_
  rfl
theorem bk246_159 {w : am_Wd} {l0 : Nat} {l1 : Int32} {l2 : Nat} {l3 : Int32} {sg : Nat} (hg : w.2.2.2 28 = some sg) : am_run 246 159 [some (.ref l0), some (.int l1), some (.ref l2), some (.int l3), none, none] [] w = am_run 246 163 [some (.ref l0), some (.int l1), some (.ref l2), some (.int l3), none, none] (.ref sg :: [.ref l2]) w := by
  refine (bu (ls'' := [some (.ref l0), some (.int l1), some (.ref l2), some (.int l3), none, none]) (st' := [.ref l2]) bf246_159 bf246_160 rfl rfl).trans ?_
  exact bu (ls'' := [some (.ref l0), some (.int l1), some (.ref l2), some (.int l3), none, none]) (st' := .ref sg :: [.ref l2]) bf246_160 bf246_163 (by show some _ = _; rw [hg]; rfl) rfl
theorem bk246_94 {w : am_Wd} {l0 : Nat} {l1 : Int32} {l2 : Nat} {l3 : Int32} {l5 : Int32} {s0 : Int32} : am_run 246 94 [some (.ref l0), some (.int l1), some (.ref l2), some (.int l3), none, some (.int l5)] [.int s0] w = am_run 246 63 [some (.ref l0), some (.int l1), some (.ref l2), some (.int l3), some (.int s0), some (.int (l5 + (-1 : Int32)))] [] w := by
  refine (bu (ls'' := [some (.ref l0), some (.int l1), some (.ref l2), some (.int l3), some (.int s0), some (.int l5)]) (st' := []) bf246_94 bf246_96 rfl rfl).trans ?_
  refine (bu (ls'' := [some (.ref l0), some (.int l1), some (.ref l2), some (.int l3), some (.int s0), some (.int (l5 + (-1 : Int32)))]) (st' := []) bf246_96 bf246_99 rfl rfl).trans ?_
  refine (bu (ls'' := [some (.ref l0), some (.int l1), some (.ref l2), some (.int l3), some (.int s0), some (.int (l5 + (-1 : Int32)))]) (st' := []) bf246_99 bf246_63 rfl rfl).trans ?_
  rfl
theorem bk246_145 {w : am_Wd} {l0 : Nat} {l1 : Int32} {l2 : Nat} {l3 : Int32} {s0 : Nat} {sg : Nat} (hg : w.2.2.2 27 = some sg) : am_run 246 145 [some (.ref l0), some (.int l1), some (.ref l2), some (.int l3), none, none] [.ref s0] w = am_run 246 147 [some (.ref l0), some (.int l1), some (.ref l2), some (.int l3), none, none] (.ref sg :: [.ref s0]) w := by
  exact bu (ls'' := [some (.ref l0), some (.int l1), some (.ref l2), some (.int l3), none, none]) (st' := .ref sg :: [.ref s0]) bf246_145 bf246_147 (by show some _ = _; rw [hg]; rfl) rfl
theorem bk246_140 {w : am_Wd} {l0 : Nat} {l1 : Int32} {l2 : Nat} {l3 : Int32} {s0 : Nat} {sg : Nat} (hg : w.2.2.2 26 = some sg) : am_run 246 140 [some (.ref l0), some (.int l1), some (.ref l2), some (.int l3), none, none] [.ref s0] w = am_run 246 142 [some (.ref l0), some (.int l1), some (.ref l2), some (.int l3), none, none] (.ref sg :: [.ref s0]) w := by
  exact bu (ls'' := [some (.ref l0), some (.int l1), some (.ref l2), some (.int l3), none, none]) (st' := .ref sg :: [.ref s0]) bf246_140 bf246_142 (by show some _ = _; rw [hg]; rfl) rfl
theorem bk246_163 {w : am_Wd} {l0 : Nat} {l1 : Int32} {l2 : Nat} {l3 : Int32} {s0 : Nat} {s1 : Nat} : am_run 246 163 [some (.ref l0), some (.int l1), some (.ref l2), some (.int l3), none, none] [.ref s0, .ref s1] w = (am_gf w l0 11 7).bind fun v => am_run 246 167 [some (.ref l0), some (.int l1), some (.ref l2), some (.int l3), none, none] (v :: [.ref s0, .ref s1]) w := by
  refine (bu (ls'' := [some (.ref l0), some (.int l1), some (.ref l2), some (.int l3), none, none]) (st' := [.ref l0, .ref s0, .ref s1]) bf246_163 bf246_164 rfl rfl).trans ?_
  exact bh bf246_164 bf246_167 rfl (fun _ _ => am_ge_rf w) rfl
theorem bk246_142 {w : am_Wd} {l0 : Nat} {l1 : Int32} {l2 : Nat} {l3 : Int32} {s0 : Nat} {s1 : Nat} : am_run 246 142 [some (.ref l0), some (.int l1), some (.ref l2), some (.int l3), none, none] [.ref s0, .ref s1] w = am_run 246 147 [some (.ref l0), some (.int l1), some (.ref l2), some (.int l3), none, none] [.ref s0, .ref s1] w := by
  refine (bu (ls'' := [some (.ref l0), some (.int l1), some (.ref l2), some (.int l3), none, none]) (st' := [.ref s0, .ref s1]) bf246_142 bf246_147 rfl rfl).trans ?_
  rfl
theorem bk246_167 {w : am_Wd} {l0 : Nat} {l1 : Int32} {l2 : Nat} {l3 : Int32} {s0 : Nat} {s1 : Nat} {s2 : Nat} : am_run 246 167 [some (.ref l0), some (.int l1), some (.ref l2), some (.int l3), none, none] [.ref s0, .ref s1, .ref s2] w = (am_rq w s0 l3).bind fun v => am_run 246 169 [some (.ref l0), some (.int l1), some (.ref l2), some (.int l3), none, none] (v :: [.ref s1, .ref s2]) w := by
  refine (bu (ls'' := [some (.ref l0), some (.int l1), some (.ref l2), some (.int l3), none, none]) (st' := [.int l3, .ref s0, .ref s1, .ref s2]) bf246_167 bf246_168 rfl rfl).trans ?_
  exact bh bf246_168 bf246_169 rfl (fun _ _ => am_ge_rf w) rfl
theorem bk246_169 {w : am_Wd} {l0 : Nat} {l1 : Int32} {l2 : Nat} {l3 : Int32} {s0 : Nat} {s1 : Nat} {s2 : Nat} : am_run 246 169 [some (.ref l0), some (.int l1), some (.ref l2), some (.int l3), none, none] [.ref s0, .ref s1, .ref s2] w = (am_ri 0 w s0 (nI 0)).bind fun v => am_run 246 171 [some (.ref l0), some (.int l1), some (.ref l2), some (.int l3), none, none] (.int v :: [.ref s1, .ref s2]) w := by
  refine (bu (ls'' := [some (.ref l0), some (.int l1), some (.ref l2), some (.int l3), none, none]) (st' := [.int (nI 0), .ref s0, .ref s1, .ref s2]) bf246_169 bf246_170 rfl rfl).trans ?_
  exact bh bf246_170 bf246_171 rfl (fun _ _ => am_ge_rf w) rfl
theorem bk246_171 {w : am_Wd} {l0 : Nat} {l1 : Int32} {l2 : Nat} {l3 : Int32} {s0 : Int32} {s1 : Nat} {s2 : Nat} : am_run 246 171 [some (.ref l0), some (.int l1), some (.ref l2), some (.int l3), none, none] [.int s0, .ref s1, .ref s2] w = (am_kf w s1 0).bind fun _ => (am_x 196 [.ref s1, .int s0] w).bind fun r => bct r fun v w' => am_run 246 174 [some (.ref l0), some (.int l1), some (.ref l2), some (.int l3), none, none] (v.toList ++ [.ref s2]) w' := by
  exact bkV bf246_171 bf246_174 rfl (by decide +kernel) (Nat.le_of_ble_eq_true rfl) rfl (bhd rfl)
theorem bk246_174 {w : am_Wd} {l0 : Nat} {l1 : Int32} {l2 : Nat} {l3 : Int32} {s0 : Int32} {s1 : Nat} : am_run 246 174 [some (.ref l0), some (.int l1), some (.ref l2), some (.int l3), none, none] [.int s0, .ref s1] w = (am_kf w s1 1).bind fun _ => (am_x 154 [.ref s1, .int s0] w).bind fun r => bct r fun v w' => am_run 246 177 [some (.ref l0), some (.int l1), some (.ref l2), some (.int l3), none, none] (v.toList ++ []) w' := by
  exact bkV bf246_174 bf246_177 rfl (by decide +kernel) (Nat.le_of_ble_eq_true rfl) rfl (bhd rfl)
theorem bk246_177 {w : am_Wd} {l0 : Nat} {l1 : Int32} {l2 : Nat} {l3 : Int32} {s0 : Nat} : am_run 246 177 [some (.ref l0), some (.int l1), some (.ref l2), some (.int l3), none, none] [.ref s0] w = am_run 246 178 [some (.ref l0), some (.int l1), some (.ref l2), some (.int l3), none, none] [] w := by
  refine (bu (ls'' := [some (.ref l0), some (.int l1), some (.ref l2), some (.int l3), none, none]) (st' := []) bf246_177 bf246_178 rfl rfl).trans ?_
  rfl
theorem bf247_0 : am_fetch (am_mth 247) 0 = some (.aload_n 0, 1, [], []) := by decide +kernel
theorem bf247_1 : am_fetch (am_mth 247) 1 = some (.aload_n 0, 1, [], []) := by decide +kernel
theorem bf247_2 : am_fetch (am_mth 247) 2 = some (.iload_n 1, 1, [], []) := by decide +kernel
theorem bf247_3 : am_fetch (am_mth 247) 3 = some (.invokevirtual 149, 3, [0, 99, 1, 11, 1387, 1389, 24, 48], []) := by decide +kernel
theorem bf247_6 : am_fetch (am_mth 247) 6 = some (.iconst 1, 1, [], []) := by decide +kernel
theorem bf247_7 : am_fetch (am_mth 247) 7 = some (.invokevirtual 83, 3, [0, 96, 2, 11, 1251, 1253, 18, 48], []) := by decide +kernel
theorem bf247_10 : am_fetch (am_mth 247) 10 = some (.ifCond .ne 25, 3, [], []) := by decide +kernel
theorem bf247_13 : am_fetch (am_mth 247) 13 = some (.aload_n 0, 1, [], []) := by decide +kernel
theorem bf247_14 : am_fetch (am_mth 247) 14 = some (.iload_n 2, 1, [], []) := by decide +kernel
theorem bf247_15 : am_fetch (am_mth 247) 15 = some (.iconst 0, 1, [], []) := by decide +kernel
theorem bf247_16 : am_fetch (am_mth 247) 16 = some (.iconst 3, 1, [], []) := by decide +kernel
theorem bf247_17 : am_fetch (am_mth 247) 17 = some (.invokestatic 42, 3, [0, 39, 3, 1245, 1246, 48], []) := by decide +kernel
theorem bf247_20 : am_fetch (am_mth 247) 20 = some (.ifCond .ne 7, 3, [], []) := by decide +kernel
theorem bf247_23 : am_fetch (am_mth 247) 23 = some (.iconst 1, 1, [], []) := by decide +kernel
theorem bf247_24 : am_fetch (am_mth 247) 24 = some (.goto 4, 3, [], []) := by decide +kernel
theorem bf247_27 : am_fetch (am_mth 247) 27 = some (.iconst 0, 1, [], []) := by decide +kernel
theorem bf247_28 : am_fetch (am_mth 247) 28 = some (.iconst 2, 1, [], []) := by decide +kernel
theorem bf247_29 : am_fetch (am_mth 247) 29 = some (.invokevirtual 38, 3, [0, 40, 2, 11, 1255, 1257, 19, 48], []) := by decide +kernel
theorem bf247_32 : am_fetch (am_mth 247) 32 = some (.ifCond .eq 7, 3, [], []) := by decide +kernel
theorem bf247_35 : am_fetch (am_mth 247) 35 = some (.iconst 0, 1, [], [0, 1, 2]) := by decide +kernel
theorem bf247_36 : am_fetch (am_mth 247) 36 = some (.goto 19, 3, [], [0, 1, 2]) := by decide +kernel
theorem bf247_39 : am_fetch (am_mth 247) 39 = some (.aload_n 0, 1, [], []) := by decide +kernel
theorem bf247_40 : am_fetch (am_mth 247) 40 = some (.aload_n 0, 1, [], []) := by decide +kernel
theorem bf247_41 : am_fetch (am_mth 247) 41 = some (.getfield 31, 3, [0, 11, 11, 1208], [0]) := by decide +kernel
theorem bf247_44 : am_fetch (am_mth 247) 44 = some (.iload_n 1, 1, [], [0]) := by decide +kernel
theorem bf247_45 : am_fetch (am_mth 247) 45 = some (.invokevirtual 152, 3, [0, 150, 1, 3, 1391, 1392, 1393, 51], [0, 1]) := by decide +kernel
theorem bf247_48 : am_fetch (am_mth 247) 48 = some (.checkcast 72, 3, [0, 10, 1295], [0, 1]) := by decide +kernel
theorem bf247_51 : am_fetch (am_mth 247) 51 = some (.iload_n 2, 1, [], [0, 1]) := by decide +kernel
theorem bf247_52 : am_fetch (am_mth 247) 52 = some (.invokevirtual 292, 3, [0, 230, 2, 11, 1665, 1667, 42, 48], [0, 1, 2]) := by decide +kernel
theorem bf247_55 : am_fetch (am_mth 247) 55 = some (.ireturn, 1, [0], [0, 1, 2]) := by decide +kernel
theorem bk247_0 {w : am_Wd} {l0 : Nat} {l1 : Int32} {l2 : Int32} : am_run 247 0 [some (.ref l0), some (.int l1), some (.int l2)] [] w = (am_kf w l0 11).bind fun _ => (am_x 99 [.ref l0, .int l1] w).bind fun r => bct r fun v w' => am_run 247 6 [some (.ref l0), some (.int l1), some (.int l2)] (v.toList ++ [.ref l0]) w' := by
  refine (bu (ls'' := [some (.ref l0), some (.int l1), some (.int l2)]) (st' := [.ref l0]) bf247_0 bf247_1 rfl rfl).trans ?_
  refine (bu (ls'' := [some (.ref l0), some (.int l1), some (.int l2)]) (st' := [.ref l0, .ref l0]) bf247_1 bf247_2 rfl rfl).trans ?_
  refine (bu (ls'' := [some (.ref l0), some (.int l1), some (.int l2)]) (st' := [.int l1, .ref l0, .ref l0]) bf247_2 bf247_3 rfl rfl).trans ?_
  exact bkV bf247_3 bf247_6 rfl (by decide +kernel) (Nat.le_of_ble_eq_true rfl) rfl (bhd rfl)
theorem bk247_6 {w : am_Wd} {l0 : Nat} {l1 : Int32} {l2 : Int32} {s0 : Int32} {s1 : Nat} : am_run 247 6 [some (.ref l0), some (.int l1), some (.int l2)] [.int s0, .ref s1] w = (am_kf w s1 11).bind fun _ => (am_x 96 [.ref s1, .int s0, .int (nI 1)] w).bind fun r => bct r fun v w' => am_run 247 10 [some (.ref l0), some (.int l1), some (.int l2)] (v.toList ++ []) w' := by
  refine (bu (ls'' := [some (.ref l0), some (.int l1), some (.int l2)]) (st' := [.int (nI 1), .int s0, .ref s1]) bf247_6 bf247_7 rfl rfl).trans ?_
  exact bkV bf247_7 bf247_10 rfl (by decide +kernel) (Nat.le_of_ble_eq_true rfl) rfl (bhd rfl)
theorem bk247_10 {w : am_Wd} {l0 : Nat} {l1 : Int32} {l2 : Int32} {s0 : Int32} : am_run 247 10 [some (.ref l0), some (.int l1), some (.int l2)] [.int s0] w = if ¬ s0 = nI 0 then am_run 247 35 [none, none, none] [] w else am_run 247 13 [some (.ref l0), some (.int l1), some (.int l2)] [] w := by
  exact bifc bf247_10 rfl bf247_35 bf247_13 rfl rfl rfl
theorem bk247_35 {w : am_Wd}  : am_run 247 35 [none, none, none] [] w = am_run 247 55 [none, none, none] [.int (nI 0)] w := by
  refine (bu (ls'' := [none, none, none]) (st' := [.int (nI 0)]) bf247_35 bf247_36 rfl rfl).trans ?_
  refine (bu (ls'' := [none, none, none]) (st' := [.int (nI 0)]) bf247_36 bf247_55 rfl rfl).trans ?_
  rfl
theorem bk247_13 {w : am_Wd} {l0 : Nat} {l1 : Int32} {l2 : Int32} : am_run 247 13 [some (.ref l0), some (.int l1), some (.int l2)] [] w = (am_x 39 [.int l2, .int (nI 0), .int (nI 3)] w).bind fun r => bct r fun v w' => am_run 247 20 [some (.ref l0), some (.int l1), some (.int l2)] (v.toList ++ [.ref l0]) w' := by
  refine (bu (ls'' := [some (.ref l0), some (.int l1), some (.int l2)]) (st' := [.ref l0]) bf247_13 bf247_14 rfl rfl).trans ?_
  refine (bu (ls'' := [some (.ref l0), some (.int l1), some (.int l2)]) (st' := [.int l2, .ref l0]) bf247_14 bf247_15 rfl rfl).trans ?_
  refine (bu (ls'' := [some (.ref l0), some (.int l1), some (.int l2)]) (st' := [.int (nI 0), .int l2, .ref l0]) bf247_15 bf247_16 rfl rfl).trans ?_
  refine (bu (ls'' := [some (.ref l0), some (.int l1), some (.int l2)]) (st' := [.int (nI 3), .int (nI 0), .int l2, .ref l0]) bf247_16 bf247_17 rfl rfl).trans ?_
  exact bkS bf247_17 bf247_20 rfl (by decide +kernel) (Nat.le_of_ble_eq_true rfl) rfl (bhd rfl)
theorem bk247_55 {w : am_Wd} {s0 : Int32} : am_run 247 55 [none, none, none] [.int s0] w = some (.inl (some (.int s0)), w) := by
  exact am_e2 bf247_55 rfl (am_ge_rf w)
theorem bk247_20 {w : am_Wd} {l0 : Nat} {l1 : Int32} {l2 : Int32} {s0 : Int32} {s1 : Nat} : am_run 247 20 [some (.ref l0), some (.int l1), some (.int l2)] [.int s0, .ref s1] w = if ¬ s0 = nI 0 then am_run 247 27 [some (.ref l0), some (.int l1), some (.int l2)] [.ref s1] w else am_run 247 23 [some (.ref l0), some (.int l1), some (.int l2)] [.ref s1] w := by
  exact bifc bf247_20 rfl bf247_27 bf247_23 rfl rfl rfl
theorem bk247_27 {w : am_Wd} {l0 : Nat} {l1 : Int32} {l2 : Int32} {s0 : Nat} : am_run 247 27 [some (.ref l0), some (.int l1), some (.int l2)] [.ref s0] w = am_run 247 28 [some (.ref l0), some (.int l1), some (.int l2)] [.int (nI 0), .ref s0] w := by
  refine (bu (ls'' := [some (.ref l0), some (.int l1), some (.int l2)]) (st' := [.int (nI 0), .ref s0]) bf247_27 bf247_28 rfl rfl).trans ?_
  rfl
theorem bk247_23 {w : am_Wd} {l0 : Nat} {l1 : Int32} {l2 : Int32} {s0 : Nat} : am_run 247 23 [some (.ref l0), some (.int l1), some (.int l2)] [.ref s0] w = am_run 247 28 [some (.ref l0), some (.int l1), some (.int l2)] [.int (nI 1), .ref s0] w := by
  refine (bu (ls'' := [some (.ref l0), some (.int l1), some (.int l2)]) (st' := [.int (nI 1), .ref s0]) bf247_23 bf247_24 rfl rfl).trans ?_
  refine (bu (ls'' := [some (.ref l0), some (.int l1), some (.int l2)]) (st' := [.int (nI 1), .ref s0]) bf247_24 bf247_28 rfl rfl).trans ?_
  rfl
theorem bk247_28 {w : am_Wd} {l0 : Nat} {l1 : Int32} {l2 : Int32} {s0 : Int32} {s1 : Nat} : am_run 247 28 [some (.ref l0), some (.int l1), some (.int l2)] [.int s0, .ref s1] w = (am_kf w s1 11).bind fun _ => (am_x 40 [.ref s1, .int s0, .int (nI 2)] w).bind fun r => bct r fun v w' => am_run 247 32 [some (.ref l0), some (.int l1), some (.int l2)] (v.toList ++ []) w' := by
  refine (bu (ls'' := [some (.ref l0), some (.int l1), some (.int l2)]) (st' := [.int (nI 2), .int s0, .ref s1]) bf247_28 bf247_29 rfl rfl).trans ?_
  exact bkV bf247_29 bf247_32 rfl (by decide +kernel) (Nat.le_of_ble_eq_true rfl) rfl (bhd rfl)
theorem bk247_32 {w : am_Wd} {l0 : Nat} {l1 : Int32} {l2 : Int32} {s0 : Int32} : am_run 247 32 [some (.ref l0), some (.int l1), some (.int l2)] [.int s0] w = if s0 = nI 0 then am_run 247 39 [some (.ref l0), some (.int l1), some (.int l2)] [] w else am_run 247 35 [none, none, none] [] w := by
  exact bifc bf247_32 rfl bf247_39 bf247_35 rfl rfl rfl
theorem bk247_39 {w : am_Wd} {l0 : Nat} {l1 : Int32} {l2 : Int32} : am_run 247 39 [some (.ref l0), some (.int l1), some (.int l2)] [] w = (am_gf w l0 11 11).bind fun v => am_run 247 44 [none, some (.int l1), some (.int l2)] (v :: [.ref l0]) w := by
  refine (bu (ls'' := [some (.ref l0), some (.int l1), some (.int l2)]) (st' := [.ref l0]) bf247_39 bf247_40 rfl rfl).trans ?_
  refine (bu (ls'' := [none, some (.int l1), some (.int l2)]) (st' := [.ref l0, .ref l0]) bf247_40 bf247_41 rfl rfl).trans ?_
  exact bh bf247_41 bf247_44 rfl (fun _ _ => am_ge_rf w) rfl
theorem bk247_44 {w : am_Wd} {l1 : Int32} {l2 : Int32} {s0 : Nat} {s1 : Nat} : am_run 247 44 [none, some (.int l1), some (.int l2)] [.ref s0, .ref s1] w = (am_kf w s0 3).bind fun _ => (am_x 150 [.ref s0, .int l1] w).bind fun r => bct r fun v w' => am_run 247 48 [none, none, some (.int l2)] (v.toList ++ [.ref s1]) w' := by
  refine (bu (ls'' := [none, none, some (.int l2)]) (st' := [.int l1, .ref s0, .ref s1]) bf247_44 bf247_45 rfl rfl).trans ?_
  exact bkV bf247_45 bf247_48 rfl (by decide +kernel) (Nat.le_of_ble_eq_true rfl) rfl (bhd rfl)
theorem bk247_48 {w : am_Wd} {l2 : Int32} {s0 : Nat} {s1 : Nat} : am_run 247 48 [none, none, some (.int l2)] [.ref s0, .ref s1] w = (am_kf w s0 10).bind fun _ => am_run 247 51 [none, none, some (.int l2)] [.ref s0, .ref s1] w := by
  exact bh bf247_48 bf247_51 rfl (fun _ _ => am_ge_rf w) rfl
theorem bk247_51 {w : am_Wd} {l2 : Int32} {s0 : Nat} {s1 : Nat} : am_run 247 51 [none, none, some (.int l2)] [.ref s0, .ref s1] w = (am_kf w s1 11).bind fun _ => (am_x 230 [.ref s1, .ref s0, .int l2] w).bind fun r => bct r fun v w' => am_run 247 55 [none, none, none] (v.toList ++ []) w' := by
  refine (bu (ls'' := [none, none, none]) (st' := [.int l2, .ref s0, .ref s1]) bf247_51 bf247_52 rfl rfl).trans ?_
  exact bkV bf247_52 bf247_55 rfl (by decide +kernel) (Nat.le_of_ble_eq_true rfl) rfl (bhd rfl)
theorem bf248_0 : am_fetch (am_mth 248) 0 = some (.iconst 0, 1, [], [2, 3]) := by decide +kernel
theorem bf248_1 : am_fetch (am_mth 248) 1 = some (.istore_n 2, 1, [], [2, 3]) := by decide +kernel
theorem bf248_2 : am_fetch (am_mth 248) 2 = some (.iconst 1, 1, [], [3]) := by decide +kernel
theorem bf248_3 : am_fetch (am_mth 248) 3 = some (.istore_n 3, 1, [], [3]) := by decide +kernel
theorem bf248_4 : am_fetch (am_mth 248) 4 = some (.iload_n 3, 1, [], []) := by decide +kernel
theorem bf248_5 : am_fetch (am_mth 248) 5 = some (.iconst 4, 1, [], []) := by decide +kernel
theorem bf248_6 : am_fetch (am_mth 248) 6 = some (.if_icmp .ge 26, 3, [], []) := by decide +kernel
theorem bf248_9 : am_fetch (am_mth 248) 9 = some (.aload_n 0, 1, [], []) := by decide +kernel
theorem bf248_10 : am_fetch (am_mth 248) 10 = some (.aload_n 1, 1, [], []) := by decide +kernel
theorem bf248_11 : am_fetch (am_mth 248) 11 = some (.iload_n 3, 1, [], []) := by decide +kernel
theorem bf248_12 : am_fetch (am_mth 248) 12 = some (.invokevirtual 292, 3, [0, 230, 2, 11, 1665, 1667, 42, 48], []) := by decide +kernel
theorem bf248_15 : am_fetch (am_mth 248) 15 = some (.aload_n 0, 1, [], []) := by decide +kernel
theorem bf248_16 : am_fetch (am_mth 248) 16 = some (.aload_n 1, 1, [], []) := by decide +kernel
theorem bf248_17 : am_fetch (am_mth 248) 17 = some (.iload_n 2, 1, [], []) := by decide +kernel
theorem bf248_18 : am_fetch (am_mth 248) 18 = some (.invokevirtual 292, 3, [0, 230, 2, 11, 1665, 1667, 42, 48], []) := by decide +kernel
theorem bf248_21 : am_fetch (am_mth 248) 21 = some (.if_icmp .ge 5, 3, [], []) := by decide +kernel
theorem bf248_24 : am_fetch (am_mth 248) 24 = some (.iload_n 3, 1, [], [2]) := by decide +kernel
theorem bf248_25 : am_fetch (am_mth 248) 25 = some (.istore_n 2, 1, [], [2]) := by decide +kernel
theorem bf248_26 : am_fetch (am_mth 248) 26 = some (.iinc 3 1, 3, [], []) := by decide +kernel
theorem bf248_29 : am_fetch (am_mth 248) 29 = some (.goto (-25), 3, [], []) := by decide +kernel
theorem bf248_32 : am_fetch (am_mth 248) 32 = some (.iload_n 2, 1, [], [0, 1, 3]) := by decide +kernel
theorem bf248_33 : am_fetch (am_mth 248) 33 = some (.ireturn, 1, [0], [0, 1, 2, 3]) := by decide +kernel
theorem bk248_0 {w : am_Wd} {l0 : Nat} {l1 : Nat} : am_run 248 0 [some (.ref l0), some (.ref l1), none, none] [] w = am_run 248 4 [some (.ref l0), some (.ref l1), some (.int (nI 0)), some (.int (nI 1))] [] w := by
  refine (bu (ls'' := [some (.ref l0), some (.ref l1), none, none]) (st' := [.int (nI 0)]) bf248_0 bf248_1 rfl rfl).trans ?_
  refine (bu (ls'' := [some (.ref l0), some (.ref l1), some (.int (nI 0)), none]) (st' := []) bf248_1 bf248_2 rfl rfl).trans ?_
  refine (bu (ls'' := [some (.ref l0), some (.ref l1), some (.int (nI 0)), none]) (st' := [.int (nI 1)]) bf248_2 bf248_3 rfl rfl).trans ?_
  refine (bu (ls'' := [some (.ref l0), some (.ref l1), some (.int (nI 0)), some (.int (nI 1))]) (st' := []) bf248_3 bf248_4 rfl rfl).trans ?_
  rfl
theorem bk248_4 {w : am_Wd} {l0 : Nat} {l1 : Nat} {l2 : Int32} {l3 : Int32} : am_run 248 4 [some (.ref l0), some (.ref l1), some (.int l2), some (.int l3)] [] w = if (nI 4) ≤ l3 then am_run 248 32 [none, none, some (.int l2), none] [] w else am_run 248 9 [some (.ref l0), some (.ref l1), some (.int l2), some (.int l3)] [] w := by
  refine (bu (ls'' := [some (.ref l0), some (.ref l1), some (.int l2), some (.int l3)]) (st' := [.int l3]) bf248_4 bf248_5 rfl rfl).trans ?_
  refine (bu (ls'' := [some (.ref l0), some (.ref l1), some (.int l2), some (.int l3)]) (st' := [.int (nI 4), .int l3]) bf248_5 bf248_6 rfl rfl).trans ?_
  exact bic bf248_6 rfl bf248_32 bf248_9 rfl rfl rfl
theorem bk248_32 {w : am_Wd} {l2 : Int32} : am_run 248 32 [none, none, some (.int l2), none] [] w = some (.inl (some (.int l2)), w) := by
  refine (bu (ls'' := [none, none, none, none]) (st' := [.int l2]) bf248_32 bf248_33 rfl rfl).trans ?_
  exact am_e2 bf248_33 rfl (am_ge_rf w)
theorem bk248_9 {w : am_Wd} {l0 : Nat} {l1 : Nat} {l2 : Int32} {l3 : Int32} : am_run 248 9 [some (.ref l0), some (.ref l1), some (.int l2), some (.int l3)] [] w = (am_kf w l0 11).bind fun _ => (am_x 230 [.ref l0, .ref l1, .int l3] w).bind fun r => bct r fun v w' => am_run 248 15 [some (.ref l0), some (.ref l1), some (.int l2), some (.int l3)] (v.toList ++ []) w' := by
  refine (bu (ls'' := [some (.ref l0), some (.ref l1), some (.int l2), some (.int l3)]) (st' := [.ref l0]) bf248_9 bf248_10 rfl rfl).trans ?_
  refine (bu (ls'' := [some (.ref l0), some (.ref l1), some (.int l2), some (.int l3)]) (st' := [.ref l1, .ref l0]) bf248_10 bf248_11 rfl rfl).trans ?_
  refine (bu (ls'' := [some (.ref l0), some (.ref l1), some (.int l2), some (.int l3)]) (st' := [.int l3, .ref l1, .ref l0]) bf248_11 bf248_12 rfl rfl).trans ?_
  exact bkV bf248_12 bf248_15 rfl (by decide +kernel) (Nat.le_of_ble_eq_true rfl) rfl (bhd rfl)
theorem bk248_15 {w : am_Wd} {l0 : Nat} {l1 : Nat} {l2 : Int32} {l3 : Int32} {s0 : Int32} : am_run 248 15 [some (.ref l0), some (.ref l1), some (.int l2), some (.int l3)] [.int s0] w = (am_kf w l0 11).bind fun _ => (am_x 230 [.ref l0, .ref l1, .int l2] w).bind fun r => bct r fun v w' => am_run 248 21 [some (.ref l0), some (.ref l1), some (.int l2), some (.int l3)] (v.toList ++ [.int s0]) w' := by
  refine (bu (ls'' := [some (.ref l0), some (.ref l1), some (.int l2), some (.int l3)]) (st' := [.ref l0, .int s0]) bf248_15 bf248_16 rfl rfl).trans ?_
  refine (bu (ls'' := [some (.ref l0), some (.ref l1), some (.int l2), some (.int l3)]) (st' := [.ref l1, .ref l0, .int s0]) bf248_16 bf248_17 rfl rfl).trans ?_
  refine (bu (ls'' := [some (.ref l0), some (.ref l1), some (.int l2), some (.int l3)]) (st' := [.int l2, .ref l1, .ref l0, .int s0]) bf248_17 bf248_18 rfl rfl).trans ?_
  exact bkV bf248_18 bf248_21 rfl (by decide +kernel) (Nat.le_of_ble_eq_true rfl) rfl (bhd rfl)
theorem bk248_21 {w : am_Wd} {l0 : Nat} {l1 : Nat} {l2 : Int32} {l3 : Int32} {s0 : Int32} {s1 : Int32} : am_run 248 21 [some (.ref l0), some (.ref l1), some (.int l2), some (.int l3)] [.int s0, .int s1] w = if s0 ≤ s1 then am_run 248 26 [some (.ref l0), some (.ref l1), some (.int l2), some (.int l3)] [] w else am_run 248 24 [some (.ref l0), some (.ref l1), none, some (.int l3)] [] w := by
  exact bic bf248_21 rfl bf248_26 bf248_24 rfl rfl rfl
theorem bk248_26 {w : am_Wd} {l0 : Nat} {l1 : Nat} {l2 : Int32} {l3 : Int32} : am_run 248 26 [some (.ref l0), some (.ref l1), some (.int l2), some (.int l3)] [] w = am_run 248 4 [some (.ref l0), some (.ref l1), some (.int l2), some (.int (l3 + (nI 1)))] [] w := by
  refine (bu (ls'' := [some (.ref l0), some (.ref l1), some (.int l2), some (.int (l3 + (nI 1)))]) (st' := []) bf248_26 bf248_29 rfl rfl).trans ?_
  refine (bu (ls'' := [some (.ref l0), some (.ref l1), some (.int l2), some (.int (l3 + (nI 1)))]) (st' := []) bf248_29 bf248_4 rfl rfl).trans ?_
  rfl
theorem bk248_24 {w : am_Wd} {l0 : Nat} {l1 : Nat} {l3 : Int32} : am_run 248 24 [some (.ref l0), some (.ref l1), none, some (.int l3)] [] w = am_run 248 26 [some (.ref l0), some (.ref l1), some (.int l3), some (.int l3)] [] w := by
  refine (bu (ls'' := [some (.ref l0), some (.ref l1), none, some (.int l3)]) (st' := [.int l3]) bf248_24 bf248_25 rfl rfl).trans ?_
  refine (bu (ls'' := [some (.ref l0), some (.ref l1), some (.int l3), some (.int l3)]) (st' := []) bf248_25 bf248_26 rfl rfl).trans ?_
  rfl
theorem bf249_0 : am_fetch (am_mth 249) 0 = some (.aload_n 3, 1, [], [4]) := by decide +kernel
theorem bf249_1 : am_fetch (am_mth 249) 1 = some (.aload_n 0, 1, [], [3, 4]) := by decide +kernel
theorem bf249_2 : am_fetch (am_mth 249) 2 = some (.iload_n 1, 1, [], [0, 3, 4]) := by decide +kernel
theorem bf249_3 : am_fetch (am_mth 249) 3 = some (.iload_n 2, 1, [], [0, 1, 3, 4]) := by decide +kernel
theorem bf249_4 : am_fetch (am_mth 249) 4 = some (.invokevirtual 96, 3, [0, 223, 2, 8, 1131, 373, 374, 46], [0, 1, 2, 3, 4]) := by decide +kernel
theorem bf249_7 : am_fetch (am_mth 249) 7 = some (.i2l, 1, [], [0, 1, 2, 3, 4]) := by decide +kernel
theorem bf249_8 : am_fetch (am_mth 249) 8 = some (.putfield 13, 3, [1, 9, 0, 485], [0, 1, 2, 3, 4]) := by decide +kernel
theorem bf249_11 : am_fetch (am_mth 249) 11 = some (.goto 11, 3, [], [0, 1, 2, 3, 4]) := by decide +kernel
theorem bf249_14 : am_fetch (am_mth 249) 14 = some (.astore 4, 2, [], [0, 1, 2, 3, 4]) := by decide +kernel
theorem bf249_16 : am_fetch (am_mth 249) 16 = some (.iconst 1, 1, [], [0, 1, 2, 3, 4]) := by decide +kernel
theorem bf249_17 : am_fetch (am_mth 249) 17 = some (.ireturn, 1, [0], [0, 1, 2, 3, 4]) := by decide +kernel
theorem bf249_18 : am_fetch (am_mth 249) 18 = some (.astore 4, 2, [], [0, 1, 2, 3, 4]) := by decide +kernel
theorem bf249_20 : am_fetch (am_mth 249) 20 = some (.iconst 2, 1, [], [0, 1, 2, 3, 4]) := by decide +kernel
theorem bf249_21 : am_fetch (am_mth 249) 21 = some (.ireturn, 1, [0], [0, 1, 2, 3, 4]) := by decide +kernel
theorem bf249_22 : am_fetch (am_mth 249) 22 = some (.iconst 0, 1, [], [0, 1, 2, 3, 4]) := by decide +kernel
theorem bf249_23 : am_fetch (am_mth 249) 23 = some (.ireturn, 1, [0], [0, 1, 2, 3, 4]) := by decide +kernel
theorem bk249_0 {w : am_Wd} {l0 : Nat} {l1 : Int32} {l2 : Int32} {l3 : Nat} : am_run 249 0 [some (.ref l0), some (.int l1), some (.int l2), some (.ref l3), none] [] w = (am_kf w l0 8).bind fun _ => (am_x 223 [.ref l0, .int l1, .int l2] w).bind fun r => am_af 249 4 r (fun v w' => am_run 249 7 [none, none, none, none, none] (v.toList ++ [.ref l3]) w') (fun h w' => am_run 249 h (am_nrm 249 h [none, none, none, none, none]) [] w') := by
  refine (bu (ls'' := [some (.ref l0), some (.int l1), some (.int l2), none, none]) (st' := [.ref l3]) bf249_0 bf249_1 rfl rfl).trans ?_
  refine (bu (ls'' := [none, some (.int l1), some (.int l2), none, none]) (st' := [.ref l0, .ref l3]) bf249_1 bf249_2 rfl rfl).trans ?_
  refine (bu (ls'' := [none, none, some (.int l2), none, none]) (st' := [.int l1, .ref l0, .ref l3]) bf249_2 bf249_3 rfl rfl).trans ?_
  refine (bu (ls'' := [none, none, none, none, none]) (st' := [.int l2, .int l1, .ref l0, .ref l3]) bf249_3 bf249_4 rfl rfl).trans ?_
  exact bkHV bf249_4 bf249_7 rfl (by decide +kernel) (Nat.le_of_ble_eq_true rfl) rfl
theorem bk249_7 {w : am_Wd} {s0 : Int32} {s1 : Nat} : am_run 249 7 [none, none, none, none, none] [.int s0, .ref s1] w = (am_pf w s1 9 0 (.long (Int32.toInt64 s0))).bind fun w' => am_run 249 11 [none, none, none, none, none] [] w' := by
  refine (bu (ls'' := [none, none, none, none, none]) (st' := [.long (Int32.toInt64 s0), .ref s1]) bf249_7 bf249_8 rfl rfl).trans ?_
  exact bh bf249_8 bf249_11 rfl (bge_pf) rfl
theorem bk249_16 {w : am_Wd}  : am_run 249 16 [none, none, none, none, none] [] w = some (.inl (some (.int (nI 1))), w) := by
  refine (bu (ls'' := [none, none, none, none, none]) (st' := [.int (nI 1)]) bf249_16 bf249_17 rfl rfl).trans ?_
  exact am_e2 bf249_17 rfl (am_ge_rf w)
theorem bk249_20 {w : am_Wd}  : am_run 249 20 [none, none, none, none, none] [] w = some (.inl (some (.int (nI 2))), w) := by
  refine (bu (ls'' := [none, none, none, none, none]) (st' := [.int (nI 2)]) bf249_20 bf249_21 rfl rfl).trans ?_
  exact am_e2 bf249_21 rfl (am_ge_rf w)
theorem bk249_11 {w : am_Wd}  : am_run 249 11 [none, none, none, none, none] [] w = some (.inl (some (.int (nI 0))), w) := by
  refine (bu (ls'' := [none, none, none, none, none]) (st' := []) bf249_11 bf249_22 rfl rfl).trans ?_
  refine (bu (ls'' := [none, none, none, none, none]) (st' := [.int (nI 0)]) bf249_22 bf249_23 rfl rfl).trans ?_
  exact am_e2 bf249_23 rfl (am_ge_rf w)
theorem bf250_0 : am_fetch (am_mth 250) 0 = some (.ldc2_w 293, 3, [0, 58286, 215], [1, 2, 3, 4]) := by decide +kernel
theorem bf250_3 : am_fetch (am_mth 250) 3 = some (.lstore_n 1, 1, [], [1, 2, 3, 4]) := by decide +kernel
theorem bf250_4 : am_fetch (am_mth 250) 4 = some (.iconst 0, 1, [], [2, 3, 4]) := by decide +kernel
theorem bf250_5 : am_fetch (am_mth 250) 5 = some (.istore_n 3, 1, [], [2, 3, 4]) := by decide +kernel
theorem bf250_6 : am_fetch (am_mth 250) 6 = some (.iload_n 3, 1, [], [2, 4]) := by decide +kernel
theorem bf250_7 : am_fetch (am_mth 250) 7 = some (.bipush 11, 2, [], [2, 4]) := by decide +kernel
theorem bf250_9 : am_fetch (am_mth 250) 9 = some (.if_icmp .gt 20, 3, [], [2, 4]) := by decide +kernel
theorem bf250_12 : am_fetch (am_mth 250) 12 = some (.lload_n 1, 1, [], [2, 4]) := by decide +kernel
theorem bf250_13 : am_fetch (am_mth 250) 13 = some (.aload_n 0, 1, [], [1, 2, 4]) := by decide +kernel
theorem bf250_14 : am_fetch (am_mth 250) 14 = some (.iload_n 3, 1, [], [1, 2, 4]) := by decide +kernel
theorem bf250_15 : am_fetch (am_mth 250) 15 = some (.invokevirtual 295, 3, [0, 136, 1, 8, 216, 217, 218, 46], [1, 2, 4]) := by decide +kernel
theorem bf250_18 : am_fetch (am_mth 250) 18 = some (.i2l, 1, [], [1, 2, 4]) := by decide +kernel
theorem bf250_19 : am_fetch (am_mth 250) 19 = some (.invokestatic 298, 3, [0, 25, 2, 303, 304, 46], [1, 2, 4]) := by decide +kernel
theorem bf250_22 : am_fetch (am_mth 250) 22 = some (.lstore_n 1, 1, [], [1, 2, 4]) := by decide +kernel
theorem bf250_23 : am_fetch (am_mth 250) 23 = some (.iinc 3 1, 3, [], [2, 4]) := by decide +kernel
theorem bf250_26 : am_fetch (am_mth 250) 26 = some (.goto (-20), 3, [], [2, 4]) := by decide +kernel
theorem bf250_29 : am_fetch (am_mth 250) 29 = some (.iconst 0, 1, [], [2, 3, 4]) := by decide +kernel
theorem bf250_30 : am_fetch (am_mth 250) 30 = some (.istore_n 3, 1, [], [2, 3, 4]) := by decide +kernel
theorem bf250_31 : am_fetch (am_mth 250) 31 = some (.iload_n 3, 1, [], [2, 4]) := by decide +kernel
theorem bf250_32 : am_fetch (am_mth 250) 32 = some (.bipush 36, 2, [], [2, 4]) := by decide +kernel
theorem bf250_34 : am_fetch (am_mth 250) 34 = some (.if_icmp .ge 52, 3, [], [2, 4]) := by decide +kernel
theorem bf250_37 : am_fetch (am_mth 250) 37 = some (.iconst 1, 1, [], [2, 4]) := by decide +kernel
theorem bf250_38 : am_fetch (am_mth 250) 38 = some (.istore 4, 2, [], [2, 4]) := by decide +kernel
theorem bf250_40 : am_fetch (am_mth 250) 40 = some (.iload 4, 2, [], [2]) := by decide +kernel
theorem bf250_42 : am_fetch (am_mth 250) 42 = some (.iconst 2, 1, [], [2]) := by decide +kernel
theorem bf250_43 : am_fetch (am_mth 250) 43 = some (.if_icmp .gt 37, 3, [], [2]) := by decide +kernel
theorem bf250_46 : am_fetch (am_mth 250) 46 = some (.lload_n 1, 1, [], [2]) := by decide +kernel
theorem bf250_47 : am_fetch (am_mth 250) 47 = some (.aload_n 0, 1, [], [1, 2]) := by decide +kernel
theorem bf250_48 : am_fetch (am_mth 250) 48 = some (.iload_n 3, 1, [], [1, 2]) := by decide +kernel
theorem bf250_49 : am_fetch (am_mth 250) 49 = some (.iload 4, 2, [], [1, 2]) := by decide +kernel
theorem bf250_51 : am_fetch (am_mth 250) 51 = some (.iconst 0, 1, [], [1, 2]) := by decide +kernel
theorem bf250_52 : am_fetch (am_mth 250) 52 = some (.invokevirtual 302, 3, [0, 169, 3, 8, 307, 308, 309, 46], [1, 2]) := by decide +kernel
theorem bf250_55 : am_fetch (am_mth 250) 55 = some (.i2l, 1, [], [1, 2]) := by decide +kernel
theorem bf250_56 : am_fetch (am_mth 250) 56 = some (.invokestatic 298, 3, [0, 25, 2, 303, 304, 46], [1, 2]) := by decide +kernel
theorem bf250_59 : am_fetch (am_mth 250) 59 = some (.lstore_n 1, 1, [], [1, 2]) := by decide +kernel
theorem bf250_60 : am_fetch (am_mth 250) 60 = some (.lload_n 1, 1, [], [2]) := by decide +kernel
theorem bf250_61 : am_fetch (am_mth 250) 61 = some (.aload_n 0, 1, [], [1, 2]) := by decide +kernel
theorem bf250_62 : am_fetch (am_mth 250) 62 = some (.iload_n 3, 1, [], [1, 2]) := by decide +kernel
theorem bf250_63 : am_fetch (am_mth 250) 63 = some (.iload 4, 2, [], [1, 2]) := by decide +kernel
theorem bf250_65 : am_fetch (am_mth 250) 65 = some (.iconst 1, 1, [], [1, 2]) := by decide +kernel
theorem bf250_66 : am_fetch (am_mth 250) 66 = some (.invokevirtual 302, 3, [0, 169, 3, 8, 307, 308, 309, 46], [1, 2]) := by decide +kernel
theorem bf250_69 : am_fetch (am_mth 250) 69 = some (.i2l, 1, [], [1, 2]) := by decide +kernel
theorem bf250_70 : am_fetch (am_mth 250) 70 = some (.invokestatic 298, 3, [0, 25, 2, 303, 304, 46], [1, 2]) := by decide +kernel
theorem bf250_73 : am_fetch (am_mth 250) 73 = some (.lstore_n 1, 1, [], [1, 2]) := by decide +kernel
theorem bf250_74 : am_fetch (am_mth 250) 74 = some (.iinc 4 1, 3, [], [2]) := by decide +kernel
theorem bf250_77 : am_fetch (am_mth 250) 77 = some (.goto (-37), 3, [], [2]) := by decide +kernel
theorem bf250_80 : am_fetch (am_mth 250) 80 = some (.iinc 3 1, 3, [], [2, 4]) := by decide +kernel
theorem bf250_83 : am_fetch (am_mth 250) 83 = some (.goto (-52), 3, [], [2, 4]) := by decide +kernel
theorem bf250_86 : am_fetch (am_mth 250) 86 = some (.iconst 0, 1, [], [2, 3, 4]) := by decide +kernel
theorem bf250_87 : am_fetch (am_mth 250) 87 = some (.istore_n 3, 1, [], [2, 3, 4]) := by decide +kernel
theorem bf250_88 : am_fetch (am_mth 250) 88 = some (.iload_n 3, 1, [], [2, 4]) := by decide +kernel
theorem bf250_89 : am_fetch (am_mth 250) 89 = some (.aload_n 0, 1, [], [2, 4]) := by decide +kernel
theorem bf250_90 : am_fetch (am_mth 250) 90 = some (.getfield 76, 3, [0, 8, 2, 113], [2, 4]) := by decide +kernel
theorem bf250_93 : am_fetch (am_mth 250) 93 = some (.if_icmp .ge 16, 3, [], [2, 4]) := by decide +kernel
theorem bf250_96 : am_fetch (am_mth 250) 96 = some (.aload_n 0, 1, [], [2, 4]) := by decide +kernel
theorem bf250_97 : am_fetch (am_mth 250) 97 = some (.lload_n 1, 1, [], [2, 4]) := by decide +kernel
theorem bf250_98 : am_fetch (am_mth 250) 98 = some (.iload_n 3, 1, [], [1, 2, 4]) := by decide +kernel
theorem bf250_99 : am_fetch (am_mth 250) 99 = some (.invokevirtual 305, 3, [0, 244, 2, 8, 344, 346, 3, 46], [1, 2, 4]) := by decide +kernel
theorem bf250_102 : am_fetch (am_mth 250) 102 = some (.lstore_n 1, 1, [], [1, 2, 4]) := by decide +kernel
theorem bf250_103 : am_fetch (am_mth 250) 103 = some (.iinc 3 1, 3, [], [2, 4]) := by decide +kernel
theorem bf250_106 : am_fetch (am_mth 250) 106 = some (.goto (-18), 3, [], [2, 4]) := by decide +kernel
theorem bf250_109 : am_fetch (am_mth 250) 109 = some (.lload_n 1, 1, [], [2, 3, 4]) := by decide +kernel
theorem bf250_110 : am_fetch (am_mth 250) 110 = some (.aload_n 0, 1, [], [1, 2, 3, 4]) := by decide +kernel
theorem bf250_111 : am_fetch (am_mth 250) 111 = some (.invokevirtual 309, 3, [0, 224, 0, 8, 478, 144, 145, 46], [0, 1, 2, 3, 4]) := by decide +kernel
theorem bf250_114 : am_fetch (am_mth 250) 114 = some (.invokestatic 200, 3, [0, 26, 1, 339, 200, 46], [0, 1, 2, 3, 4]) := by decide +kernel
theorem bf250_117 : am_fetch (am_mth 250) 117 = some (.i2l, 1, [], [0, 1, 2, 3, 4]) := by decide +kernel
theorem bf250_118 : am_fetch (am_mth 250) 118 = some (.invokestatic 298, 3, [0, 25, 2, 303, 304, 46], [0, 1, 2, 3, 4]) := by decide +kernel
theorem bf250_121 : am_fetch (am_mth 250) 121 = some (.lreturn, 1, [], [0, 1, 2, 3, 4]) := by decide +kernel
theorem bk250_0 {w : am_Wd} {l0 : Nat} : am_run 250 0 [some (.ref l0), none, none, none, none] [] w = am_run 250 6 [some (.ref l0), some (.long (lN 58286)), none, some (.int (nI 0)), none] [] w := by
  refine (bu (ls'' := [some (.ref l0), none, none, none, none]) (st' := [.long (lN 58286)]) bf250_0 bf250_3 rfl rfl).trans ?_
  refine (bu (ls'' := [some (.ref l0), some (.long (lN 58286)), none, none, none]) (st' := []) bf250_3 bf250_4 rfl rfl).trans ?_
  refine (bu (ls'' := [some (.ref l0), some (.long (lN 58286)), none, none, none]) (st' := [.int (nI 0)]) bf250_4 bf250_5 rfl rfl).trans ?_
  refine (bu (ls'' := [some (.ref l0), some (.long (lN 58286)), none, some (.int (nI 0)), none]) (st' := []) bf250_5 bf250_6 rfl rfl).trans ?_
  rfl
theorem bk250_6 {w : am_Wd} {l0 : Nat} {l1 : Int64} {l3 : Int32} : am_run 250 6 [some (.ref l0), some (.long l1), none, some (.int l3), none] [] w = if (nI 11) < l3 then am_run 250 29 [some (.ref l0), some (.long l1), none, none, none] [] w else am_run 250 12 [some (.ref l0), some (.long l1), none, some (.int l3), none] [] w := by
  refine (bu (ls'' := [some (.ref l0), some (.long l1), none, some (.int l3), none]) (st' := [.int l3]) bf250_6 bf250_7 rfl rfl).trans ?_
  refine (bu (ls'' := [some (.ref l0), some (.long l1), none, some (.int l3), none]) (st' := [.int (nI 11), .int l3]) bf250_7 bf250_9 rfl rfl).trans ?_
  exact bic bf250_9 rfl bf250_29 bf250_12 rfl rfl rfl
theorem bk250_29 {w : am_Wd} {l0 : Nat} {l1 : Int64} : am_run 250 29 [some (.ref l0), some (.long l1), none, none, none] [] w = am_run 250 31 [some (.ref l0), some (.long l1), none, some (.int (nI 0)), none] [] w := by
  refine (bu (ls'' := [some (.ref l0), some (.long l1), none, none, none]) (st' := [.int (nI 0)]) bf250_29 bf250_30 rfl rfl).trans ?_
  refine (bu (ls'' := [some (.ref l0), some (.long l1), none, some (.int (nI 0)), none]) (st' := []) bf250_30 bf250_31 rfl rfl).trans ?_
  rfl
theorem bk250_12 {w : am_Wd} {l0 : Nat} {l1 : Int64} {l3 : Int32} : am_run 250 12 [some (.ref l0), some (.long l1), none, some (.int l3), none] [] w = (am_kf w l0 8).bind fun _ => (am_x 136 [.ref l0, .int l3] w).bind fun r => bct r fun v w' => am_run 250 18 [some (.ref l0), none, none, some (.int l3), none] (v.toList ++ [.long l1]) w' := by
  refine (bu (ls'' := [some (.ref l0), none, none, some (.int l3), none]) (st' := [.long l1]) bf250_12 bf250_13 rfl rfl).trans ?_
  refine (bu (ls'' := [some (.ref l0), none, none, some (.int l3), none]) (st' := [.ref l0, .long l1]) bf250_13 bf250_14 rfl rfl).trans ?_
  refine (bu (ls'' := [some (.ref l0), none, none, some (.int l3), none]) (st' := [.int l3, .ref l0, .long l1]) bf250_14 bf250_15 rfl rfl).trans ?_
  exact bkV bf250_15 bf250_18 rfl (by decide +kernel) (Nat.le_of_ble_eq_true rfl) rfl (bhd rfl)
theorem bk250_31 {w : am_Wd} {l0 : Nat} {l1 : Int64} {l3 : Int32} : am_run 250 31 [some (.ref l0), some (.long l1), none, some (.int l3), none] [] w = if (nI 36) ≤ l3 then am_run 250 86 [some (.ref l0), some (.long l1), none, none, none] [] w else am_run 250 37 [some (.ref l0), some (.long l1), none, some (.int l3), none] [] w := by
  refine (bu (ls'' := [some (.ref l0), some (.long l1), none, some (.int l3), none]) (st' := [.int l3]) bf250_31 bf250_32 rfl rfl).trans ?_
  refine (bu (ls'' := [some (.ref l0), some (.long l1), none, some (.int l3), none]) (st' := [.int (nI 36), .int l3]) bf250_32 bf250_34 rfl rfl).trans ?_
  exact bic bf250_34 rfl bf250_86 bf250_37 rfl rfl rfl
theorem bk250_18 {w : am_Wd} {l0 : Nat} {l3 : Int32} {s0 : Int32} {s1 : Int64} : am_run 250 18 [some (.ref l0), none, none, some (.int l3), none] [.int s0, .long s1] w = (am_x 25 [.long s1, .long (Int32.toInt64 s0)] w).bind fun r => bct r fun v w' => am_run 250 22 [some (.ref l0), none, none, some (.int l3), none] (v.toList ++ []) w' := by
  refine (bu (ls'' := [some (.ref l0), none, none, some (.int l3), none]) (st' := [.long (Int32.toInt64 s0), .long s1]) bf250_18 bf250_19 rfl rfl).trans ?_
  exact bkS bf250_19 bf250_22 rfl (by decide +kernel) (Nat.le_of_ble_eq_true rfl) rfl (bhd rfl)
theorem bk250_86 {w : am_Wd} {l0 : Nat} {l1 : Int64} : am_run 250 86 [some (.ref l0), some (.long l1), none, none, none] [] w = am_run 250 88 [some (.ref l0), some (.long l1), none, some (.int (nI 0)), none] [] w := by
  refine (bu (ls'' := [some (.ref l0), some (.long l1), none, none, none]) (st' := [.int (nI 0)]) bf250_86 bf250_87 rfl rfl).trans ?_
  refine (bu (ls'' := [some (.ref l0), some (.long l1), none, some (.int (nI 0)), none]) (st' := []) bf250_87 bf250_88 rfl rfl).trans ?_
  rfl
theorem bk250_37 {w : am_Wd} {l0 : Nat} {l1 : Int64} {l3 : Int32} : am_run 250 37 [some (.ref l0), some (.long l1), none, some (.int l3), none] [] w = am_run 250 40 [some (.ref l0), some (.long l1), none, some (.int l3), some (.int (nI 1))] [] w := by
  refine (bu (ls'' := [some (.ref l0), some (.long l1), none, some (.int l3), none]) (st' := [.int (nI 1)]) bf250_37 bf250_38 rfl rfl).trans ?_
  refine (bu (ls'' := [some (.ref l0), some (.long l1), none, some (.int l3), some (.int (nI 1))]) (st' := []) bf250_38 bf250_40 rfl rfl).trans ?_
  rfl
theorem bk250_22 {w : am_Wd} {l0 : Nat} {l3 : Int32} {s0 : Int64} : am_run 250 22 [some (.ref l0), none, none, some (.int l3), none] [.long s0] w = am_run 250 6 [some (.ref l0), some (.long s0), none, some (.int (l3 + (nI 1))), none] [] w := by
  refine (bu (ls'' := [some (.ref l0), some (.long s0), none, some (.int l3), none]) (st' := []) bf250_22 bf250_23 rfl rfl).trans ?_
  refine (bu (ls'' := [some (.ref l0), some (.long s0), none, some (.int (l3 + (nI 1))), none]) (st' := []) bf250_23 bf250_26 rfl rfl).trans ?_
  refine (bu (ls'' := [some (.ref l0), some (.long s0), none, some (.int (l3 + (nI 1))), none]) (st' := []) bf250_26 bf250_6 rfl rfl).trans ?_
  rfl
theorem bk250_88 {w : am_Wd} {l0 : Nat} {l1 : Int64} {l3 : Int32} : am_run 250 88 [some (.ref l0), some (.long l1), none, some (.int l3), none] [] w = (am_gf w l0 8 2).bind fun v => am_run 250 93 [some (.ref l0), some (.long l1), none, some (.int l3), none] (v :: [.int l3]) w := by
  refine (bu (ls'' := [some (.ref l0), some (.long l1), none, some (.int l3), none]) (st' := [.int l3]) bf250_88 bf250_89 rfl rfl).trans ?_
  refine (bu (ls'' := [some (.ref l0), some (.long l1), none, some (.int l3), none]) (st' := [.ref l0, .int l3]) bf250_89 bf250_90 rfl rfl).trans ?_
  exact bh bf250_90 bf250_93 rfl (fun _ _ => am_ge_rf w) rfl
theorem bk250_40 {w : am_Wd} {l0 : Nat} {l1 : Int64} {l3 : Int32} {l4 : Int32} : am_run 250 40 [some (.ref l0), some (.long l1), none, some (.int l3), some (.int l4)] [] w = if (nI 2) < l4 then am_run 250 80 [some (.ref l0), some (.long l1), none, some (.int l3), none] [] w else am_run 250 46 [some (.ref l0), some (.long l1), none, some (.int l3), some (.int l4)] [] w := by
  refine (bu (ls'' := [some (.ref l0), some (.long l1), none, some (.int l3), some (.int l4)]) (st' := [.int l4]) bf250_40 bf250_42 rfl rfl).trans ?_
  refine (bu (ls'' := [some (.ref l0), some (.long l1), none, some (.int l3), some (.int l4)]) (st' := [.int (nI 2), .int l4]) bf250_42 bf250_43 rfl rfl).trans ?_
  exact bic bf250_43 rfl bf250_80 bf250_46 rfl rfl rfl
theorem bk250_93 {w : am_Wd} {l0 : Nat} {l1 : Int64} {l3 : Int32} {s0 : Int32} {s1 : Int32} : am_run 250 93 [some (.ref l0), some (.long l1), none, some (.int l3), none] [.int s0, .int s1] w = if s0 ≤ s1 then am_run 250 109 [some (.ref l0), some (.long l1), none, none, none] [] w else am_run 250 96 [some (.ref l0), some (.long l1), none, some (.int l3), none] [] w := by
  exact bic bf250_93 rfl bf250_109 bf250_96 rfl rfl rfl
theorem bk250_80 {w : am_Wd} {l0 : Nat} {l1 : Int64} {l3 : Int32} : am_run 250 80 [some (.ref l0), some (.long l1), none, some (.int l3), none] [] w = am_run 250 31 [some (.ref l0), some (.long l1), none, some (.int (l3 + (nI 1))), none] [] w := by
  refine (bu (ls'' := [some (.ref l0), some (.long l1), none, some (.int (l3 + (nI 1))), none]) (st' := []) bf250_80 bf250_83 rfl rfl).trans ?_
  refine (bu (ls'' := [some (.ref l0), some (.long l1), none, some (.int (l3 + (nI 1))), none]) (st' := []) bf250_83 bf250_31 rfl rfl).trans ?_
  rfl
theorem bk250_46 {w : am_Wd} {l0 : Nat} {l1 : Int64} {l3 : Int32} {l4 : Int32} : am_run 250 46 [some (.ref l0), some (.long l1), none, some (.int l3), some (.int l4)] [] w = (am_kf w l0 8).bind fun _ => (am_x 169 [.ref l0, .int l3, .int l4, .int (nI 0)] w).bind fun r => bct r fun v w' => am_run 250 55 [some (.ref l0), none, none, some (.int l3), some (.int l4)] (v.toList ++ [.long l1]) w' := by
  refine (bu (ls'' := [some (.ref l0), none, none, some (.int l3), some (.int l4)]) (st' := [.long l1]) bf250_46 bf250_47 rfl rfl).trans ?_
  refine (bu (ls'' := [some (.ref l0), none, none, some (.int l3), some (.int l4)]) (st' := [.ref l0, .long l1]) bf250_47 bf250_48 rfl rfl).trans ?_
  refine (bu (ls'' := [some (.ref l0), none, none, some (.int l3), some (.int l4)]) (st' := [.int l3, .ref l0, .long l1]) bf250_48 bf250_49 rfl rfl).trans ?_
  refine (bu (ls'' := [some (.ref l0), none, none, some (.int l3), some (.int l4)]) (st' := [.int l4, .int l3, .ref l0, .long l1]) bf250_49 bf250_51 rfl rfl).trans ?_
  refine (bu (ls'' := [some (.ref l0), none, none, some (.int l3), some (.int l4)]) (st' := [.int (nI 0), .int l4, .int l3, .ref l0, .long l1]) bf250_51 bf250_52 rfl rfl).trans ?_
  exact bkV bf250_52 bf250_55 rfl (by decide +kernel) (Nat.le_of_ble_eq_true rfl) rfl (bhd rfl)
theorem bk250_109 {w : am_Wd} {l0 : Nat} {l1 : Int64} : am_run 250 109 [some (.ref l0), some (.long l1), none, none, none] [] w = (am_kf w l0 8).bind fun _ => (am_x 224 [.ref l0] w).bind fun r => bct r fun v w' => am_run 250 114 [none, none, none, none, none] (v.toList ++ [.long l1]) w' := by
  refine (bu (ls'' := [some (.ref l0), none, none, none, none]) (st' := [.long l1]) bf250_109 bf250_110 rfl rfl).trans ?_
  refine (bu (ls'' := [none, none, none, none, none]) (st' := [.ref l0, .long l1]) bf250_110 bf250_111 rfl rfl).trans ?_
  exact bkV bf250_111 bf250_114 rfl (by decide +kernel) (Nat.le_of_ble_eq_true rfl) rfl (bhd rfl)
theorem bk250_96 {w : am_Wd} {l0 : Nat} {l1 : Int64} {l3 : Int32} : am_run 250 96 [some (.ref l0), some (.long l1), none, some (.int l3), none] [] w = (am_kf w l0 8).bind fun _ => (am_x 244 [.ref l0, .long l1, .int l3] w).bind fun r => bct r fun v w' => am_run 250 102 [some (.ref l0), none, none, some (.int l3), none] (v.toList ++ []) w' := by
  refine (bu (ls'' := [some (.ref l0), some (.long l1), none, some (.int l3), none]) (st' := [.ref l0]) bf250_96 bf250_97 rfl rfl).trans ?_
  refine (bu (ls'' := [some (.ref l0), none, none, some (.int l3), none]) (st' := [.long l1, .ref l0]) bf250_97 bf250_98 rfl rfl).trans ?_
  refine (bu (ls'' := [some (.ref l0), none, none, some (.int l3), none]) (st' := [.int l3, .long l1, .ref l0]) bf250_98 bf250_99 rfl rfl).trans ?_
  exact bkV bf250_99 bf250_102 rfl (by decide +kernel) (Nat.le_of_ble_eq_true rfl) rfl (bhd rfl)
theorem bk250_55 {w : am_Wd} {l0 : Nat} {l3 : Int32} {l4 : Int32} {s0 : Int32} {s1 : Int64} : am_run 250 55 [some (.ref l0), none, none, some (.int l3), some (.int l4)] [.int s0, .long s1] w = (am_x 25 [.long s1, .long (Int32.toInt64 s0)] w).bind fun r => bct r fun v w' => am_run 250 59 [some (.ref l0), none, none, some (.int l3), some (.int l4)] (v.toList ++ []) w' := by
  refine (bu (ls'' := [some (.ref l0), none, none, some (.int l3), some (.int l4)]) (st' := [.long (Int32.toInt64 s0), .long s1]) bf250_55 bf250_56 rfl rfl).trans ?_
  exact bkS bf250_56 bf250_59 rfl (by decide +kernel) (Nat.le_of_ble_eq_true rfl) rfl (bhd rfl)
theorem bk250_114 {w : am_Wd} {s0 : Int32} {s1 : Int64} : am_run 250 114 [none, none, none, none, none] [.int s0, .long s1] w = (am_x 26 [.int s0] w).bind fun r => bct r fun v w' => am_run 250 117 [none, none, none, none, none] (v.toList ++ [.long s1]) w' := by
  exact bkS bf250_114 bf250_117 rfl (by decide +kernel) (Nat.le_of_ble_eq_true rfl) rfl (bhd rfl)
theorem bk250_102 {w : am_Wd} {l0 : Nat} {l3 : Int32} {s0 : Int64} : am_run 250 102 [some (.ref l0), none, none, some (.int l3), none] [.long s0] w = am_run 250 88 [some (.ref l0), some (.long s0), none, some (.int (l3 + (nI 1))), none] [] w := by
  refine (bu (ls'' := [some (.ref l0), some (.long s0), none, some (.int l3), none]) (st' := []) bf250_102 bf250_103 rfl rfl).trans ?_
  refine (bu (ls'' := [some (.ref l0), some (.long s0), none, some (.int (l3 + (nI 1))), none]) (st' := []) bf250_103 bf250_106 rfl rfl).trans ?_
  refine (bu (ls'' := [some (.ref l0), some (.long s0), none, some (.int (l3 + (nI 1))), none]) (st' := []) bf250_106 bf250_88 rfl rfl).trans ?_
  rfl
theorem bk250_59 {w : am_Wd} {l0 : Nat} {l3 : Int32} {l4 : Int32} {s0 : Int64} : am_run 250 59 [some (.ref l0), none, none, some (.int l3), some (.int l4)] [.long s0] w = (am_kf w l0 8).bind fun _ => (am_x 169 [.ref l0, .int l3, .int l4, .int (nI 1)] w).bind fun r => bct r fun v w' => am_run 250 69 [some (.ref l0), none, none, some (.int l3), some (.int l4)] (v.toList ++ [.long s0]) w' := by
  refine (bu (ls'' := [some (.ref l0), some (.long s0), none, some (.int l3), some (.int l4)]) (st' := []) bf250_59 bf250_60 rfl rfl).trans ?_
  refine (bu (ls'' := [some (.ref l0), none, none, some (.int l3), some (.int l4)]) (st' := [.long s0]) bf250_60 bf250_61 rfl rfl).trans ?_
  refine (bu (ls'' := [some (.ref l0), none, none, some (.int l3), some (.int l4)]) (st' := [.ref l0, .long s0]) bf250_61 bf250_62 rfl rfl).trans ?_
  refine (bu (ls'' := [some (.ref l0), none, none, some (.int l3), some (.int l4)]) (st' := [.int l3, .ref l0, .long s0]) bf250_62 bf250_63 rfl rfl).trans ?_
  refine (bu (ls'' := [some (.ref l0), none, none, some (.int l3), some (.int l4)]) (st' := [.int l4, .int l3, .ref l0, .long s0]) bf250_63 bf250_65 rfl rfl).trans ?_
  refine (bu (ls'' := [some (.ref l0), none, none, some (.int l3), some (.int l4)]) (st' := [.int (nI 1), .int l4, .int l3, .ref l0, .long s0]) bf250_65 bf250_66 rfl rfl).trans ?_
  exact bkV bf250_66 bf250_69 rfl (by decide +kernel) (Nat.le_of_ble_eq_true rfl) rfl (bhd rfl)
theorem bk250_117 {w : am_Wd} {s0 : Int32} {s1 : Int64} : am_run 250 117 [none, none, none, none, none] [.int s0, .long s1] w = (am_x 25 [.long s1, .long (Int32.toInt64 s0)] w).bind fun r => bct r fun v w' => am_run 250 121 [none, none, none, none, none] (v.toList ++ []) w' := by
  refine (bu (ls'' := [none, none, none, none, none]) (st' := [.long (Int32.toInt64 s0), .long s1]) bf250_117 bf250_118 rfl rfl).trans ?_
  exact bkS bf250_118 bf250_121 rfl (by decide +kernel) (Nat.le_of_ble_eq_true rfl) rfl (bhd rfl)
theorem bk250_69 {w : am_Wd} {l0 : Nat} {l3 : Int32} {l4 : Int32} {s0 : Int32} {s1 : Int64} : am_run 250 69 [some (.ref l0), none, none, some (.int l3), some (.int l4)] [.int s0, .long s1] w = (am_x 25 [.long s1, .long (Int32.toInt64 s0)] w).bind fun r => bct r fun v w' => am_run 250 73 [some (.ref l0), none, none, some (.int l3), some (.int l4)] (v.toList ++ []) w' := by
  refine (bu (ls'' := [some (.ref l0), none, none, some (.int l3), some (.int l4)]) (st' := [.long (Int32.toInt64 s0), .long s1]) bf250_69 bf250_70 rfl rfl).trans ?_
  exact bkS bf250_70 bf250_73 rfl (by decide +kernel) (Nat.le_of_ble_eq_true rfl) rfl (bhd rfl)
theorem bk250_121 {w : am_Wd} {s0 : Int64} : am_run 250 121 [none, none, none, none, none] [.long s0] w = some (.inl (some (.long s0)), w) := by
  exact am_e2 bf250_121 rfl (am_ge_rf w)
theorem bk250_73 {w : am_Wd} {l0 : Nat} {l3 : Int32} {l4 : Int32} {s0 : Int64} : am_run 250 73 [some (.ref l0), none, none, some (.int l3), some (.int l4)] [.long s0] w = am_run 250 40 [some (.ref l0), some (.long s0), none, some (.int l3), some (.int (l4 + (nI 1)))] [] w := by
  refine (bu (ls'' := [some (.ref l0), some (.long s0), none, some (.int l3), some (.int l4)]) (st' := []) bf250_73 bf250_74 rfl rfl).trans ?_
  refine (bu (ls'' := [some (.ref l0), some (.long s0), none, some (.int l3), some (.int (l4 + (nI 1)))]) (st' := []) bf250_74 bf250_77 rfl rfl).trans ?_
  refine (bu (ls'' := [some (.ref l0), some (.long s0), none, some (.int l3), some (.int (l4 + (nI 1)))]) (st' := []) bf250_77 bf250_40 rfl rfl).trans ?_
  rfl
theorem bf251_0 : am_fetch (am_mth 251) 0 = some (.aload_n 0, 1, [], []) := by decide +kernel
theorem bf251_1 : am_fetch (am_mth 251) 1 = some (.aload_n 1, 1, [], []) := by decide +kernel
theorem bf251_2 : am_fetch (am_mth 251) 2 = some (.invokevirtual 133, 3, [0, 245, 1, 11, 1419, 1421, 27, 48], []) := by decide +kernel
theorem bf251_5 : am_fetch (am_mth 251) 5 = some (.ifCond .ge 20, 3, [], []) := by decide +kernel
theorem bf251_8 : am_fetch (am_mth 251) 8 = some (.aload_n 1, 1, [], [0]) := by decide +kernel
theorem bf251_9 : am_fetch (am_mth 251) 9 = some (.getfield 107, 3, [0, 10, 2, 1305], [0, 1]) := by decide +kernel
theorem bf251_12 : am_fetch (am_mth 251) 12 = some (.bipush 20, 2, [], [0, 1]) := by decide +kernel
theorem bf251_14 : am_fetch (am_mth 251) 14 = some (.if_icmp .le 7, 3, [], [0, 1]) := by decide +kernel
theorem bf251_17 : am_fetch (am_mth 251) 17 = some (.iconst 1, 1, [], [0, 1]) := by decide +kernel
theorem bf251_18 : am_fetch (am_mth 251) 18 = some (.goto 26, 3, [], [0, 1]) := by decide +kernel
theorem bf251_21 : am_fetch (am_mth 251) 21 = some (.iconst 0, 1, [], [0, 1]) := by decide +kernel
theorem bf251_22 : am_fetch (am_mth 251) 22 = some (.goto 22, 3, [], [0, 1]) := by decide +kernel
theorem bf251_25 : am_fetch (am_mth 251) 25 = some (.aload_n 1, 1, [], []) := by decide +kernel
theorem bf251_26 : am_fetch (am_mth 251) 26 = some (.getfield 107, 3, [0, 10, 2, 1305], []) := by decide +kernel
theorem bf251_29 : am_fetch (am_mth 251) 29 = some (.iconst 1, 1, [], []) := by decide +kernel
theorem bf251_30 : am_fetch (am_mth 251) 30 = some (.isub, 1, [], []) := by decide +kernel
theorem bf251_31 : am_fetch (am_mth 251) 31 = some (.aload_n 0, 1, [], []) := by decide +kernel
theorem bf251_32 : am_fetch (am_mth 251) 32 = some (.aload_n 1, 1, [], [0]) := by decide +kernel
theorem bf251_33 : am_fetch (am_mth 251) 33 = some (.invokevirtual 133, 3, [0, 245, 1, 11, 1419, 1421, 27, 48], [0, 1]) := by decide +kernel
theorem bf251_36 : am_fetch (am_mth 251) 36 = some (.if_icmp .lt 7, 3, [], [0, 1]) := by decide +kernel
theorem bf251_39 : am_fetch (am_mth 251) 39 = some (.iconst 1, 1, [], [0, 1]) := by decide +kernel
theorem bf251_40 : am_fetch (am_mth 251) 40 = some (.goto 4, 3, [], [0, 1]) := by decide +kernel
theorem bf251_43 : am_fetch (am_mth 251) 43 = some (.iconst 0, 1, [], [0, 1]) := by decide +kernel
theorem bf251_44 : am_fetch (am_mth 251) 44 = some (.ireturn, 1, [1], [0, 1]) := by decide +kernel
theorem bk251_0 {w : am_Wd} {l0 : Nat} {l1 : Nat} : am_run 251 0 [some (.ref l0), some (.ref l1)] [] w = (am_kf w l0 11).bind fun _ => (am_x 245 [.ref l0, .ref l1] w).bind fun r => bct r fun v w' => am_run 251 5 [some (.ref l0), some (.ref l1)] (v.toList ++ []) w' := by
  refine (bu (ls'' := [some (.ref l0), some (.ref l1)]) (st' := [.ref l0]) bf251_0 bf251_1 rfl rfl).trans ?_
  refine (bu (ls'' := [some (.ref l0), some (.ref l1)]) (st' := [.ref l1, .ref l0]) bf251_1 bf251_2 rfl rfl).trans ?_
  exact bkV bf251_2 bf251_5 rfl (by decide +kernel) (Nat.le_of_ble_eq_true rfl) rfl (bhd rfl)
theorem bk251_5 {w : am_Wd} {l0 : Nat} {l1 : Nat} {s0 : Int32} : am_run 251 5 [some (.ref l0), some (.ref l1)] [.int s0] w = if nI 0 ≤ s0 then am_run 251 25 [some (.ref l0), some (.ref l1)] [] w else am_run 251 8 [none, some (.ref l1)] [] w := by
  exact bifc bf251_5 rfl bf251_25 bf251_8 rfl rfl rfl
theorem bk251_25 {w : am_Wd} {l0 : Nat} {l1 : Nat} : am_run 251 25 [some (.ref l0), some (.ref l1)] [] w = (am_gf w l1 10 2).bind fun v => am_run 251 29 [some (.ref l0), some (.ref l1)] (v :: []) w := by
  refine (bu (ls'' := [some (.ref l0), some (.ref l1)]) (st' := [.ref l1]) bf251_25 bf251_26 rfl rfl).trans ?_
  exact bh bf251_26 bf251_29 rfl (fun _ _ => am_ge_rf w) rfl
theorem bk251_8 {w : am_Wd} {l1 : Nat} : am_run 251 8 [none, some (.ref l1)] [] w = (am_gf w l1 10 2).bind fun v => am_run 251 12 [none, none] (v :: []) w := by
  refine (bu (ls'' := [none, none]) (st' := [.ref l1]) bf251_8 bf251_9 rfl rfl).trans ?_
  exact bh bf251_9 bf251_12 rfl (fun _ _ => am_ge_rf w) rfl
theorem bk251_29 {w : am_Wd} {l0 : Nat} {l1 : Nat} {s0 : Int32} : am_run 251 29 [some (.ref l0), some (.ref l1)] [.int s0] w = (am_kf w l0 11).bind fun _ => (am_x 245 [.ref l0, .ref l1] w).bind fun r => bct r fun v w' => am_run 251 36 [none, none] (v.toList ++ [.int (s0 - (nI 1))]) w' := by
  refine (bu (ls'' := [some (.ref l0), some (.ref l1)]) (st' := [.int (nI 1), .int s0]) bf251_29 bf251_30 rfl rfl).trans ?_
  refine (bu (ls'' := [some (.ref l0), some (.ref l1)]) (st' := [.int (s0 - (nI 1))]) bf251_30 bf251_31 rfl rfl).trans ?_
  refine (bu (ls'' := [none, some (.ref l1)]) (st' := [.ref l0, .int (s0 - (nI 1))]) bf251_31 bf251_32 rfl rfl).trans ?_
  refine (bu (ls'' := [none, none]) (st' := [.ref l1, .ref l0, .int (s0 - (nI 1))]) bf251_32 bf251_33 rfl rfl).trans ?_
  exact bkV bf251_33 bf251_36 rfl (by decide +kernel) (Nat.le_of_ble_eq_true rfl) rfl (bhd rfl)
theorem bk251_12 {w : am_Wd} {s0 : Int32} : am_run 251 12 [none, none] [.int s0] w = if s0 ≤ (nI 20) then am_run 251 21 [none, none] [] w else am_run 251 17 [none, none] [] w := by
  refine (bu (ls'' := [none, none]) (st' := [.int (nI 20), .int s0]) bf251_12 bf251_14 rfl rfl).trans ?_
  exact bic bf251_14 rfl bf251_21 bf251_17 rfl rfl rfl
theorem bk251_36 {w : am_Wd} {s0 : Int32} {s1 : Int32} : am_run 251 36 [none, none] [.int s0, .int s1] w = if s1 < s0 then am_run 251 43 [none, none] [] w else am_run 251 39 [none, none] [] w := by
  exact bic bf251_36 rfl bf251_43 bf251_39 rfl rfl rfl
theorem bk251_21 {w : am_Wd}  : am_run 251 21 [none, none] [] w = am_run 251 44 [none, none] [.int (nI 0)] w := by
  refine (bu (ls'' := [none, none]) (st' := [.int (nI 0)]) bf251_21 bf251_22 rfl rfl).trans ?_
  refine (bu (ls'' := [none, none]) (st' := [.int (nI 0)]) bf251_22 bf251_44 rfl rfl).trans ?_
  rfl
theorem bk251_17 {w : am_Wd}  : am_run 251 17 [none, none] [] w = am_run 251 44 [none, none] [.int (nI 1)] w := by
  refine (bu (ls'' := [none, none]) (st' := [.int (nI 1)]) bf251_17 bf251_18 rfl rfl).trans ?_
  refine (bu (ls'' := [none, none]) (st' := [.int (nI 1)]) bf251_18 bf251_44 rfl rfl).trans ?_
  rfl
theorem bk251_43 {w : am_Wd}  : am_run 251 43 [none, none] [] w = am_run 251 44 [none, none] [.int (nI 0)] w := by
  refine (bu (ls'' := [none, none]) (st' := [.int (nI 0)]) bf251_43 bf251_44 rfl rfl).trans ?_
  rfl
theorem bk251_39 {w : am_Wd}  : am_run 251 39 [none, none] [] w = am_run 251 44 [none, none] [.int (nI 1)] w := by
  refine (bu (ls'' := [none, none]) (st' := [.int (nI 1)]) bf251_39 bf251_40 rfl rfl).trans ?_
  refine (bu (ls'' := [none, none]) (st' := [.int (nI 1)]) bf251_40 bf251_44 rfl rfl).trans ?_
  rfl
theorem bk251_44 {w : am_Wd} {s0 : Int32} (hb : am_ok (am_rt 1) (.int s0) = true) : am_run 251 44 [none, none] [.int s0] w = some (.inl (some (.int s0)), w) := by
  exact am_e2 bf251_44 (by unfold am_stp; exact if_pos ⟨by decide, hb⟩) (am_ge_rf w)
theorem bf252_0 : am_fetch (am_mth 252) 0 = some (.aload_n 0, 1, [], []) := by decide +kernel
theorem bf252_1 : am_fetch (am_mth 252) 1 = some (.aload_n 0, 1, [], []) := by decide +kernel
theorem bf252_2 : am_fetch (am_mth 252) 2 = some (.iload_n 1, 1, [], []) := by decide +kernel
theorem bf252_3 : am_fetch (am_mth 252) 3 = some (.invokevirtual 149, 3, [0, 99, 1, 11, 1387, 1389, 24, 48], []) := by decide +kernel
theorem bf252_6 : am_fetch (am_mth 252) 6 = some (.iconst 1, 1, [], []) := by decide +kernel
theorem bf252_7 : am_fetch (am_mth 252) 7 = some (.invokevirtual 83, 3, [0, 96, 2, 11, 1251, 1253, 18, 48], []) := by decide +kernel
theorem bf252_10 : am_fetch (am_mth 252) 10 = some (.ifCond .eq 7, 3, [], []) := by decide +kernel
theorem bf252_13 : am_fetch (am_mth 252) 13 = some (.iconst 0, 1, [], [0, 1]) := by decide +kernel
theorem bf252_14 : am_fetch (am_mth 252) 14 = some (.goto 18, 3, [], [0, 1]) := by decide +kernel
theorem bf252_17 : am_fetch (am_mth 252) 17 = some (.aload_n 0, 1, [], []) := by decide +kernel
theorem bf252_18 : am_fetch (am_mth 252) 18 = some (.aload_n 0, 1, [], []) := by decide +kernel
theorem bf252_19 : am_fetch (am_mth 252) 19 = some (.getfield 31, 3, [0, 11, 11, 1208], [0]) := by decide +kernel
theorem bf252_22 : am_fetch (am_mth 252) 22 = some (.iload_n 1, 1, [], [0]) := by decide +kernel
theorem bf252_23 : am_fetch (am_mth 252) 23 = some (.invokevirtual 152, 3, [0, 150, 1, 3, 1391, 1392, 1393, 51], [0, 1]) := by decide +kernel
theorem bf252_26 : am_fetch (am_mth 252) 26 = some (.checkcast 72, 3, [0, 10, 1295], [0, 1]) := by decide +kernel
theorem bf252_29 : am_fetch (am_mth 252) 29 = some (.invokevirtual 295, 3, [0, 248, 1, 11, 1674, 1676, 43, 48], [0, 1]) := by decide +kernel
theorem bf252_32 : am_fetch (am_mth 252) 32 = some (.ireturn, 1, [0], [0, 1]) := by decide +kernel
theorem bk252_0 {w : am_Wd} {l0 : Nat} {l1 : Int32} : am_run 252 0 [some (.ref l0), some (.int l1)] [] w = (am_kf w l0 11).bind fun _ => (am_x 99 [.ref l0, .int l1] w).bind fun r => bct r fun v w' => am_run 252 6 [some (.ref l0), some (.int l1)] (v.toList ++ [.ref l0]) w' := by
  refine (bu (ls'' := [some (.ref l0), some (.int l1)]) (st' := [.ref l0]) bf252_0 bf252_1 rfl rfl).trans ?_
  refine (bu (ls'' := [some (.ref l0), some (.int l1)]) (st' := [.ref l0, .ref l0]) bf252_1 bf252_2 rfl rfl).trans ?_
  refine (bu (ls'' := [some (.ref l0), some (.int l1)]) (st' := [.int l1, .ref l0, .ref l0]) bf252_2 bf252_3 rfl rfl).trans ?_
  exact bkV bf252_3 bf252_6 rfl (by decide +kernel) (Nat.le_of_ble_eq_true rfl) rfl (bhd rfl)
theorem bk252_6 {w : am_Wd} {l0 : Nat} {l1 : Int32} {s0 : Int32} {s1 : Nat} : am_run 252 6 [some (.ref l0), some (.int l1)] [.int s0, .ref s1] w = (am_kf w s1 11).bind fun _ => (am_x 96 [.ref s1, .int s0, .int (nI 1)] w).bind fun r => bct r fun v w' => am_run 252 10 [some (.ref l0), some (.int l1)] (v.toList ++ []) w' := by
  refine (bu (ls'' := [some (.ref l0), some (.int l1)]) (st' := [.int (nI 1), .int s0, .ref s1]) bf252_6 bf252_7 rfl rfl).trans ?_
  exact bkV bf252_7 bf252_10 rfl (by decide +kernel) (Nat.le_of_ble_eq_true rfl) rfl (bhd rfl)
theorem bk252_10 {w : am_Wd} {l0 : Nat} {l1 : Int32} {s0 : Int32} : am_run 252 10 [some (.ref l0), some (.int l1)] [.int s0] w = if s0 = nI 0 then am_run 252 17 [some (.ref l0), some (.int l1)] [] w else am_run 252 13 [none, none] [] w := by
  exact bifc bf252_10 rfl bf252_17 bf252_13 rfl rfl rfl
theorem bk252_17 {w : am_Wd} {l0 : Nat} {l1 : Int32} : am_run 252 17 [some (.ref l0), some (.int l1)] [] w = (am_gf w l0 11 11).bind fun v => am_run 252 22 [none, some (.int l1)] (v :: [.ref l0]) w := by
  refine (bu (ls'' := [some (.ref l0), some (.int l1)]) (st' := [.ref l0]) bf252_17 bf252_18 rfl rfl).trans ?_
  refine (bu (ls'' := [none, some (.int l1)]) (st' := [.ref l0, .ref l0]) bf252_18 bf252_19 rfl rfl).trans ?_
  exact bh bf252_19 bf252_22 rfl (fun _ _ => am_ge_rf w) rfl
theorem bk252_13 {w : am_Wd}  : am_run 252 13 [none, none] [] w = am_run 252 32 [none, none] [.int (nI 0)] w := by
  refine (bu (ls'' := [none, none]) (st' := [.int (nI 0)]) bf252_13 bf252_14 rfl rfl).trans ?_
  refine (bu (ls'' := [none, none]) (st' := [.int (nI 0)]) bf252_14 bf252_32 rfl rfl).trans ?_
  rfl
theorem bk252_22 {w : am_Wd} {l1 : Int32} {s0 : Nat} {s1 : Nat} : am_run 252 22 [none, some (.int l1)] [.ref s0, .ref s1] w = (am_kf w s0 3).bind fun _ => (am_x 150 [.ref s0, .int l1] w).bind fun r => bct r fun v w' => am_run 252 26 [none, none] (v.toList ++ [.ref s1]) w' := by
  refine (bu (ls'' := [none, none]) (st' := [.int l1, .ref s0, .ref s1]) bf252_22 bf252_23 rfl rfl).trans ?_
  exact bkV bf252_23 bf252_26 rfl (by decide +kernel) (Nat.le_of_ble_eq_true rfl) rfl (bhd rfl)
theorem bk252_32 {w : am_Wd} {s0 : Int32} : am_run 252 32 [none, none] [.int s0] w = some (.inl (some (.int s0)), w) := by
  exact am_e2 bf252_32 rfl (am_ge_rf w)
theorem bk252_26 {w : am_Wd} {s0 : Nat} {s1 : Nat} : am_run 252 26 [none, none] [.ref s0, .ref s1] w = (am_kf w s0 10).bind fun _ => am_run 252 29 [none, none] [.ref s0, .ref s1] w := by
  exact bh bf252_26 bf252_29 rfl (fun _ _ => am_ge_rf w) rfl
theorem bk252_29 {w : am_Wd} {s0 : Nat} {s1 : Nat} : am_run 252 29 [none, none] [.ref s0, .ref s1] w = (am_kf w s1 11).bind fun _ => (am_x 248 [.ref s1, .ref s0] w).bind fun r => bct r fun v w' => am_run 252 32 [none, none] (v.toList ++ []) w' := by
  exact bkV bf252_29 bf252_32 rfl (by decide +kernel) (Nat.le_of_ble_eq_true rfl) rfl (bhd rfl)
theorem bf253_0 : am_fetch (am_mth 253) 0 = some (.aload_n 3, 1, [], [4]) := by decide +kernel
theorem bf253_1 : am_fetch (am_mth 253) 1 = some (.aload_n 0, 1, [], [3, 4]) := by decide +kernel
theorem bf253_2 : am_fetch (am_mth 253) 2 = some (.iload_n 1, 1, [], [0, 3, 4]) := by decide +kernel
theorem bf253_3 : am_fetch (am_mth 253) 3 = some (.iload_n 2, 1, [], [0, 1, 3, 4]) := by decide +kernel
theorem bf253_4 : am_fetch (am_mth 253) 4 = some (.invokevirtual 37, 3, [0, 239, 2, 8, 649, 650, 651, 46], [0, 1, 2, 3, 4]) := by decide +kernel
theorem bf253_7 : am_fetch (am_mth 253) 7 = some (.ifCond .eq 7, 3, [], [0, 1, 2, 3, 4]) := by decide +kernel
theorem bf253_10 : am_fetch (am_mth 253) 10 = some (.lconst 1, 1, [], [0, 1, 2, 3, 4]) := by decide +kernel
theorem bf253_11 : am_fetch (am_mth 253) 11 = some (.goto 4, 3, [], [0, 1, 2, 3, 4]) := by decide +kernel
theorem bf253_14 : am_fetch (am_mth 253) 14 = some (.lconst 0, 1, [], [0, 1, 2, 3, 4]) := by decide +kernel
theorem bf253_15 : am_fetch (am_mth 253) 15 = some (.putfield 13, 3, [1, 9, 0, 485], [0, 1, 2, 3, 4]) := by decide +kernel
theorem bf253_18 : am_fetch (am_mth 253) 18 = some (.goto 11, 3, [], [0, 1, 2, 3, 4]) := by decide +kernel
theorem bf253_21 : am_fetch (am_mth 253) 21 = some (.astore 4, 2, [], [0, 1, 2, 3, 4]) := by decide +kernel
theorem bf253_23 : am_fetch (am_mth 253) 23 = some (.iconst 1, 1, [], [0, 1, 2, 3, 4]) := by decide +kernel
theorem bf253_24 : am_fetch (am_mth 253) 24 = some (.ireturn, 1, [0], [0, 1, 2, 3, 4]) := by decide +kernel
theorem bf253_25 : am_fetch (am_mth 253) 25 = some (.astore 4, 2, [], [0, 1, 2, 3, 4]) := by decide +kernel
theorem bf253_27 : am_fetch (am_mth 253) 27 = some (.iconst 2, 1, [], [0, 1, 2, 3, 4]) := by decide +kernel
theorem bf253_28 : am_fetch (am_mth 253) 28 = some (.ireturn, 1, [0], [0, 1, 2, 3, 4]) := by decide +kernel
theorem bf253_29 : am_fetch (am_mth 253) 29 = some (.iconst 0, 1, [], [0, 1, 2, 3, 4]) := by decide +kernel
theorem bf253_30 : am_fetch (am_mth 253) 30 = some (.ireturn, 1, [0], [0, 1, 2, 3, 4]) := by decide +kernel
theorem bk253_0 {w : am_Wd} {l0 : Nat} {l1 : Int32} {l2 : Int32} {l3 : Nat} : am_run 253 0 [some (.ref l0), some (.int l1), some (.int l2), some (.ref l3), none] [] w = (am_kf w l0 8).bind fun _ => (am_x 239 [.ref l0, .int l1, .int l2] w).bind fun r => am_af 253 4 r (fun v w' => am_run 253 7 [none, none, none, none, none] (v.toList ++ [.ref l3]) w') (fun h w' => am_run 253 h (am_nrm 253 h [none, none, none, none, none]) [] w') := by
  refine (bu (ls'' := [some (.ref l0), some (.int l1), some (.int l2), none, none]) (st' := [.ref l3]) bf253_0 bf253_1 rfl rfl).trans ?_
  refine (bu (ls'' := [none, some (.int l1), some (.int l2), none, none]) (st' := [.ref l0, .ref l3]) bf253_1 bf253_2 rfl rfl).trans ?_
  refine (bu (ls'' := [none, none, some (.int l2), none, none]) (st' := [.int l1, .ref l0, .ref l3]) bf253_2 bf253_3 rfl rfl).trans ?_
  refine (bu (ls'' := [none, none, none, none, none]) (st' := [.int l2, .int l1, .ref l0, .ref l3]) bf253_3 bf253_4 rfl rfl).trans ?_
  exact bkHV bf253_4 bf253_7 rfl (by decide +kernel) (Nat.le_of_ble_eq_true rfl) rfl
theorem bk253_7 {w : am_Wd} {s0 : Int32} {s1 : Nat} : am_run 253 7 [none, none, none, none, none] [.int s0, .ref s1] w = if s0 = nI 0 then am_run 253 14 [none, none, none, none, none] [.ref s1] w else am_run 253 10 [none, none, none, none, none] [.ref s1] w := by
  exact bifc bf253_7 rfl bf253_14 bf253_10 rfl rfl rfl
theorem bk253_23 {w : am_Wd}  : am_run 253 23 [none, none, none, none, none] [] w = some (.inl (some (.int (nI 1))), w) := by
  refine (bu (ls'' := [none, none, none, none, none]) (st' := [.int (nI 1)]) bf253_23 bf253_24 rfl rfl).trans ?_
  exact am_e2 bf253_24 rfl (am_ge_rf w)
theorem bk253_27 {w : am_Wd}  : am_run 253 27 [none, none, none, none, none] [] w = some (.inl (some (.int (nI 2))), w) := by
  refine (bu (ls'' := [none, none, none, none, none]) (st' := [.int (nI 2)]) bf253_27 bf253_28 rfl rfl).trans ?_
  exact am_e2 bf253_28 rfl (am_ge_rf w)
theorem bk253_14 {w : am_Wd} {s0 : Nat} : am_run 253 14 [none, none, none, none, none] [.ref s0] w = am_run 253 15 [none, none, none, none, none] [.long (lN 0), .ref s0] w := by
  refine (bu (ls'' := [none, none, none, none, none]) (st' := [.long (lN 0), .ref s0]) bf253_14 bf253_15 rfl rfl).trans ?_
  rfl
theorem bk253_10 {w : am_Wd} {s0 : Nat} : am_run 253 10 [none, none, none, none, none] [.ref s0] w = am_run 253 15 [none, none, none, none, none] [.long (lN 1), .ref s0] w := by
  refine (bu (ls'' := [none, none, none, none, none]) (st' := [.long (lN 1), .ref s0]) bf253_10 bf253_11 rfl rfl).trans ?_
  refine (bu (ls'' := [none, none, none, none, none]) (st' := [.long (lN 1), .ref s0]) bf253_11 bf253_15 rfl rfl).trans ?_
  rfl
theorem bk253_15 {w : am_Wd} {s0 : Int64} {s1 : Nat} : am_run 253 15 [none, none, none, none, none] [.long s0, .ref s1] w = (am_pf w s1 9 0 (.long s0)).bind fun w' => am_run 253 18 [none, none, none, none, none] [] w' := by
  exact bh bf253_15 bf253_18 rfl (bge_pf) rfl
theorem bk253_18 {w : am_Wd}  : am_run 253 18 [none, none, none, none, none] [] w = some (.inl (some (.int (nI 0))), w) := by
  refine (bu (ls'' := [none, none, none, none, none]) (st' := []) bf253_18 bf253_29 rfl rfl).trans ?_
  refine (bu (ls'' := [none, none, none, none, none]) (st' := [.int (nI 0)]) bf253_29 bf253_30 rfl rfl).trans ?_
  exact am_e2 bf253_30 rfl (am_ge_rf w)
theorem bf254_0 : am_fetch (am_mth 254) 0 = some (.aload 4, 2, [], [5]) := by decide +kernel
theorem bf254_2 : am_fetch (am_mth 254) 2 = some (.aload_n 0, 1, [], [4, 5]) := by decide +kernel
theorem bf254_3 : am_fetch (am_mth 254) 3 = some (.iload_n 1, 1, [], [0, 4, 5]) := by decide +kernel
theorem bf254_4 : am_fetch (am_mth 254) 4 = some (.iload_n 2, 1, [], [0, 1, 4, 5]) := by decide +kernel
theorem bf254_5 : am_fetch (am_mth 254) 5 = some (.iload_n 3, 1, [], [0, 1, 2, 4, 5]) := by decide +kernel
theorem bf254_6 : am_fetch (am_mth 254) 6 = some (.invokevirtual 41, 3, [0, 240, 3, 8, 719, 720, 721, 46], [0, 1, 2, 3, 4, 5]) := by decide +kernel
theorem bf254_9 : am_fetch (am_mth 254) 9 = some (.i2l, 1, [], [0, 1, 2, 3, 4, 5]) := by decide +kernel
theorem bf254_10 : am_fetch (am_mth 254) 10 = some (.putfield 13, 3, [1, 9, 0, 485], [0, 1, 2, 3, 4, 5]) := by decide +kernel
theorem bf254_13 : am_fetch (am_mth 254) 13 = some (.goto 11, 3, [], [0, 1, 2, 3, 4, 5]) := by decide +kernel
theorem bf254_16 : am_fetch (am_mth 254) 16 = some (.astore 5, 2, [], [0, 1, 2, 3, 4, 5]) := by decide +kernel
theorem bf254_18 : am_fetch (am_mth 254) 18 = some (.iconst 1, 1, [], [0, 1, 2, 3, 4, 5]) := by decide +kernel
theorem bf254_19 : am_fetch (am_mth 254) 19 = some (.ireturn, 1, [0], [0, 1, 2, 3, 4, 5]) := by decide +kernel
theorem bf254_20 : am_fetch (am_mth 254) 20 = some (.astore 5, 2, [], [0, 1, 2, 3, 4, 5]) := by decide +kernel
theorem bf254_22 : am_fetch (am_mth 254) 22 = some (.iconst 2, 1, [], [0, 1, 2, 3, 4, 5]) := by decide +kernel
theorem bf254_23 : am_fetch (am_mth 254) 23 = some (.ireturn, 1, [0], [0, 1, 2, 3, 4, 5]) := by decide +kernel
theorem bf254_24 : am_fetch (am_mth 254) 24 = some (.iconst 0, 1, [], [0, 1, 2, 3, 4, 5]) := by decide +kernel
theorem bf254_25 : am_fetch (am_mth 254) 25 = some (.ireturn, 1, [0], [0, 1, 2, 3, 4, 5]) := by decide +kernel
theorem bk254_0 {w : am_Wd} {l0 : Nat} {l1 : Int32} {l2 : Int32} {l3 : Int32} {l4 : Nat} : am_run 254 0 [some (.ref l0), some (.int l1), some (.int l2), some (.int l3), some (.ref l4), none] [] w = (am_kf w l0 8).bind fun _ => (am_x 240 [.ref l0, .int l1, .int l2, .int l3] w).bind fun r => am_af 254 6 r (fun v w' => am_run 254 9 [none, none, none, none, none, none] (v.toList ++ [.ref l4]) w') (fun h w' => am_run 254 h (am_nrm 254 h [none, none, none, none, none, none]) [] w') := by
  refine (bu (ls'' := [some (.ref l0), some (.int l1), some (.int l2), some (.int l3), none, none]) (st' := [.ref l4]) bf254_0 bf254_2 rfl rfl).trans ?_
  refine (bu (ls'' := [none, some (.int l1), some (.int l2), some (.int l3), none, none]) (st' := [.ref l0, .ref l4]) bf254_2 bf254_3 rfl rfl).trans ?_
  refine (bu (ls'' := [none, none, some (.int l2), some (.int l3), none, none]) (st' := [.int l1, .ref l0, .ref l4]) bf254_3 bf254_4 rfl rfl).trans ?_
  refine (bu (ls'' := [none, none, none, some (.int l3), none, none]) (st' := [.int l2, .int l1, .ref l0, .ref l4]) bf254_4 bf254_5 rfl rfl).trans ?_
  refine (bu (ls'' := [none, none, none, none, none, none]) (st' := [.int l3, .int l2, .int l1, .ref l0, .ref l4]) bf254_5 bf254_6 rfl rfl).trans ?_
  exact bkHV bf254_6 bf254_9 rfl (by decide +kernel) (Nat.le_of_ble_eq_true rfl) rfl
theorem bk254_9 {w : am_Wd} {s0 : Int32} {s1 : Nat} : am_run 254 9 [none, none, none, none, none, none] [.int s0, .ref s1] w = (am_pf w s1 9 0 (.long (Int32.toInt64 s0))).bind fun w' => am_run 254 13 [none, none, none, none, none, none] [] w' := by
  refine (bu (ls'' := [none, none, none, none, none, none]) (st' := [.long (Int32.toInt64 s0), .ref s1]) bf254_9 bf254_10 rfl rfl).trans ?_
  exact bh bf254_10 bf254_13 rfl (bge_pf) rfl
theorem bk254_18 {w : am_Wd}  : am_run 254 18 [none, none, none, none, none, none] [] w = some (.inl (some (.int (nI 1))), w) := by
  refine (bu (ls'' := [none, none, none, none, none, none]) (st' := [.int (nI 1)]) bf254_18 bf254_19 rfl rfl).trans ?_
  exact am_e2 bf254_19 rfl (am_ge_rf w)
theorem bk254_22 {w : am_Wd}  : am_run 254 22 [none, none, none, none, none, none] [] w = some (.inl (some (.int (nI 2))), w) := by
  refine (bu (ls'' := [none, none, none, none, none, none]) (st' := [.int (nI 2)]) bf254_22 bf254_23 rfl rfl).trans ?_
  exact am_e2 bf254_23 rfl (am_ge_rf w)
theorem bk254_13 {w : am_Wd}  : am_run 254 13 [none, none, none, none, none, none] [] w = some (.inl (some (.int (nI 0))), w) := by
  refine (bu (ls'' := [none, none, none, none, none, none]) (st' := []) bf254_13 bf254_24 rfl rfl).trans ?_
  refine (bu (ls'' := [none, none, none, none, none, none]) (st' := [.int (nI 0)]) bf254_24 bf254_25 rfl rfl).trans ?_
  exact am_e2 bf254_25 rfl (am_ge_rf w)
theorem bf255_0 : am_fetch (am_mth 255) 0 = some (.aload_n 3, 1, [], [4]) := by decide +kernel
theorem bf255_1 : am_fetch (am_mth 255) 1 = some (.aload_n 0, 1, [], [3, 4]) := by decide +kernel
theorem bf255_2 : am_fetch (am_mth 255) 2 = some (.iload_n 1, 1, [], [0, 3, 4]) := by decide +kernel
theorem bf255_3 : am_fetch (am_mth 255) 3 = some (.iload_n 2, 1, [], [0, 1, 3, 4]) := by decide +kernel
theorem bf255_4 : am_fetch (am_mth 255) 4 = some (.invokevirtual 44, 3, [0, 241, 2, 8, 739, 740, 741, 46], [0, 1, 2, 3, 4]) := by decide +kernel
theorem bf255_7 : am_fetch (am_mth 255) 7 = some (.i2l, 1, [], [0, 1, 2, 3, 4]) := by decide +kernel
theorem bf255_8 : am_fetch (am_mth 255) 8 = some (.putfield 13, 3, [1, 9, 0, 485], [0, 1, 2, 3, 4]) := by decide +kernel
theorem bf255_11 : am_fetch (am_mth 255) 11 = some (.goto 11, 3, [], [0, 1, 2, 3, 4]) := by decide +kernel
theorem bf255_14 : am_fetch (am_mth 255) 14 = some (.astore 4, 2, [], [0, 1, 2, 3, 4]) := by decide +kernel
theorem bf255_16 : am_fetch (am_mth 255) 16 = some (.iconst 1, 1, [], [0, 1, 2, 3, 4]) := by decide +kernel
theorem bf255_17 : am_fetch (am_mth 255) 17 = some (.ireturn, 1, [0], [0, 1, 2, 3, 4]) := by decide +kernel
theorem bf255_18 : am_fetch (am_mth 255) 18 = some (.astore 4, 2, [], [0, 1, 2, 3, 4]) := by decide +kernel
theorem bf255_20 : am_fetch (am_mth 255) 20 = some (.iconst 2, 1, [], [0, 1, 2, 3, 4]) := by decide +kernel
theorem bf255_21 : am_fetch (am_mth 255) 21 = some (.ireturn, 1, [0], [0, 1, 2, 3, 4]) := by decide +kernel
theorem bf255_22 : am_fetch (am_mth 255) 22 = some (.iconst 0, 1, [], [0, 1, 2, 3, 4]) := by decide +kernel
theorem bf255_23 : am_fetch (am_mth 255) 23 = some (.ireturn, 1, [0], [0, 1, 2, 3, 4]) := by decide +kernel
theorem bk255_0 {w : am_Wd} {l0 : Nat} {l1 : Int32} {l2 : Int32} {l3 : Nat} : am_run 255 0 [some (.ref l0), some (.int l1), some (.int l2), some (.ref l3), none] [] w = (am_kf w l0 8).bind fun _ => (am_x 241 [.ref l0, .int l1, .int l2] w).bind fun r => am_af 255 4 r (fun v w' => am_run 255 7 [none, none, none, none, none] (v.toList ++ [.ref l3]) w') (fun h w' => am_run 255 h (am_nrm 255 h [none, none, none, none, none]) [] w') := by
  refine (bu (ls'' := [some (.ref l0), some (.int l1), some (.int l2), none, none]) (st' := [.ref l3]) bf255_0 bf255_1 rfl rfl).trans ?_
  refine (bu (ls'' := [none, some (.int l1), some (.int l2), none, none]) (st' := [.ref l0, .ref l3]) bf255_1 bf255_2 rfl rfl).trans ?_
  refine (bu (ls'' := [none, none, some (.int l2), none, none]) (st' := [.int l1, .ref l0, .ref l3]) bf255_2 bf255_3 rfl rfl).trans ?_
  refine (bu (ls'' := [none, none, none, none, none]) (st' := [.int l2, .int l1, .ref l0, .ref l3]) bf255_3 bf255_4 rfl rfl).trans ?_
  exact bkHV bf255_4 bf255_7 rfl (by decide +kernel) (Nat.le_of_ble_eq_true rfl) rfl
theorem bk255_7 {w : am_Wd} {s0 : Int32} {s1 : Nat} : am_run 255 7 [none, none, none, none, none] [.int s0, .ref s1] w = (am_pf w s1 9 0 (.long (Int32.toInt64 s0))).bind fun w' => am_run 255 11 [none, none, none, none, none] [] w' := by
  refine (bu (ls'' := [none, none, none, none, none]) (st' := [.long (Int32.toInt64 s0), .ref s1]) bf255_7 bf255_8 rfl rfl).trans ?_
  exact bh bf255_8 bf255_11 rfl (bge_pf) rfl
theorem bk255_16 {w : am_Wd}  : am_run 255 16 [none, none, none, none, none] [] w = some (.inl (some (.int (nI 1))), w) := by
  refine (bu (ls'' := [none, none, none, none, none]) (st' := [.int (nI 1)]) bf255_16 bf255_17 rfl rfl).trans ?_
  exact am_e2 bf255_17 rfl (am_ge_rf w)
theorem bk255_20 {w : am_Wd}  : am_run 255 20 [none, none, none, none, none] [] w = some (.inl (some (.int (nI 2))), w) := by
  refine (bu (ls'' := [none, none, none, none, none]) (st' := [.int (nI 2)]) bf255_20 bf255_21 rfl rfl).trans ?_
  exact am_e2 bf255_21 rfl (am_ge_rf w)
theorem bk255_11 {w : am_Wd}  : am_run 255 11 [none, none, none, none, none] [] w = some (.inl (some (.int (nI 0))), w) := by
  refine (bu (ls'' := [none, none, none, none, none]) (st' := []) bf255_11 bf255_22 rfl rfl).trans ?_
  refine (bu (ls'' := [none, none, none, none, none]) (st' := [.int (nI 0)]) bf255_22 bf255_23 rfl rfl).trans ?_
  exact am_e2 bf255_23 rfl (am_ge_rf w)
theorem bf256_0 : am_fetch (am_mth 256) 0 = some (.aload_n 3, 1, [], [4]) := by decide +kernel
theorem bf256_1 : am_fetch (am_mth 256) 1 = some (.aload_n 0, 1, [], [3, 4]) := by decide +kernel
theorem bf256_2 : am_fetch (am_mth 256) 2 = some (.iload_n 1, 1, [], [0, 3, 4]) := by decide +kernel
theorem bf256_3 : am_fetch (am_mth 256) 3 = some (.iload_n 2, 1, [], [0, 1, 3, 4]) := by decide +kernel
theorem bf256_4 : am_fetch (am_mth 256) 4 = some (.invokevirtual 48, 3, [0, 242, 2, 8, 760, 761, 762, 46], [0, 1, 2, 3, 4]) := by decide +kernel
theorem bf256_7 : am_fetch (am_mth 256) 7 = some (.i2l, 1, [], [0, 1, 2, 3, 4]) := by decide +kernel
theorem bf256_8 : am_fetch (am_mth 256) 8 = some (.putfield 13, 3, [1, 9, 0, 485], [0, 1, 2, 3, 4]) := by decide +kernel
theorem bf256_11 : am_fetch (am_mth 256) 11 = some (.goto 11, 3, [], [0, 1, 2, 3, 4]) := by decide +kernel
theorem bf256_14 : am_fetch (am_mth 256) 14 = some (.astore 4, 2, [], [0, 1, 2, 3, 4]) := by decide +kernel
theorem bf256_16 : am_fetch (am_mth 256) 16 = some (.iconst 1, 1, [], [0, 1, 2, 3, 4]) := by decide +kernel
theorem bf256_17 : am_fetch (am_mth 256) 17 = some (.ireturn, 1, [0], [0, 1, 2, 3, 4]) := by decide +kernel
theorem bf256_18 : am_fetch (am_mth 256) 18 = some (.astore 4, 2, [], [0, 1, 2, 3, 4]) := by decide +kernel
theorem bf256_20 : am_fetch (am_mth 256) 20 = some (.iconst 2, 1, [], [0, 1, 2, 3, 4]) := by decide +kernel
theorem bf256_21 : am_fetch (am_mth 256) 21 = some (.ireturn, 1, [0], [0, 1, 2, 3, 4]) := by decide +kernel
theorem bf256_22 : am_fetch (am_mth 256) 22 = some (.iconst 0, 1, [], [0, 1, 2, 3, 4]) := by decide +kernel
theorem bf256_23 : am_fetch (am_mth 256) 23 = some (.ireturn, 1, [0], [0, 1, 2, 3, 4]) := by decide +kernel
theorem bk256_0 {w : am_Wd} {l0 : Nat} {l1 : Int32} {l2 : Int32} {l3 : Nat} : am_run 256 0 [some (.ref l0), some (.int l1), some (.int l2), some (.ref l3), none] [] w = (am_kf w l0 8).bind fun _ => (am_x 242 [.ref l0, .int l1, .int l2] w).bind fun r => am_af 256 4 r (fun v w' => am_run 256 7 [none, none, none, none, none] (v.toList ++ [.ref l3]) w') (fun h w' => am_run 256 h (am_nrm 256 h [none, none, none, none, none]) [] w') := by
  refine (bu (ls'' := [some (.ref l0), some (.int l1), some (.int l2), none, none]) (st' := [.ref l3]) bf256_0 bf256_1 rfl rfl).trans ?_
  refine (bu (ls'' := [none, some (.int l1), some (.int l2), none, none]) (st' := [.ref l0, .ref l3]) bf256_1 bf256_2 rfl rfl).trans ?_
  refine (bu (ls'' := [none, none, some (.int l2), none, none]) (st' := [.int l1, .ref l0, .ref l3]) bf256_2 bf256_3 rfl rfl).trans ?_
  refine (bu (ls'' := [none, none, none, none, none]) (st' := [.int l2, .int l1, .ref l0, .ref l3]) bf256_3 bf256_4 rfl rfl).trans ?_
  exact bkHV bf256_4 bf256_7 rfl (by decide +kernel) (Nat.le_of_ble_eq_true rfl) rfl
theorem bk256_7 {w : am_Wd} {s0 : Int32} {s1 : Nat} : am_run 256 7 [none, none, none, none, none] [.int s0, .ref s1] w = (am_pf w s1 9 0 (.long (Int32.toInt64 s0))).bind fun w' => am_run 256 11 [none, none, none, none, none] [] w' := by
  refine (bu (ls'' := [none, none, none, none, none]) (st' := [.long (Int32.toInt64 s0), .ref s1]) bf256_7 bf256_8 rfl rfl).trans ?_
  exact bh bf256_8 bf256_11 rfl (bge_pf) rfl
theorem bk256_16 {w : am_Wd}  : am_run 256 16 [none, none, none, none, none] [] w = some (.inl (some (.int (nI 1))), w) := by
  refine (bu (ls'' := [none, none, none, none, none]) (st' := [.int (nI 1)]) bf256_16 bf256_17 rfl rfl).trans ?_
  exact am_e2 bf256_17 rfl (am_ge_rf w)
theorem bk256_20 {w : am_Wd}  : am_run 256 20 [none, none, none, none, none] [] w = some (.inl (some (.int (nI 2))), w) := by
  refine (bu (ls'' := [none, none, none, none, none]) (st' := [.int (nI 2)]) bf256_20 bf256_21 rfl rfl).trans ?_
  exact am_e2 bf256_21 rfl (am_ge_rf w)
theorem bk256_11 {w : am_Wd}  : am_run 256 11 [none, none, none, none, none] [] w = some (.inl (some (.int (nI 0))), w) := by
  refine (bu (ls'' := [none, none, none, none, none]) (st' := []) bf256_11 bf256_22 rfl rfl).trans ?_
  refine (bu (ls'' := [none, none, none, none, none]) (st' := [.int (nI 0)]) bf256_22 bf256_23 rfl rfl).trans ?_
  exact am_e2 bf256_23 rfl (am_ge_rf w)
theorem bf257_0 : am_fetch (am_mth 257) 0 = some (.aload_n 2, 1, [], [3]) := by decide +kernel
theorem bf257_1 : am_fetch (am_mth 257) 1 = some (.aload_n 0, 1, [], [2, 3]) := by decide +kernel
theorem bf257_2 : am_fetch (am_mth 257) 2 = some (.iload_n 1, 1, [], [0, 2, 3]) := by decide +kernel
theorem bf257_3 : am_fetch (am_mth 257) 3 = some (.invokevirtual 74, 3, [0, 243, 1, 8, 830, 831, 832, 46], [0, 1, 2, 3]) := by decide +kernel
theorem bf257_6 : am_fetch (am_mth 257) 6 = some (.putfield 78, 3, [1, 9, 2, 487], [0, 1, 2, 3]) := by decide +kernel
theorem bf257_9 : am_fetch (am_mth 257) 9 = some (.goto 6, 3, [], [0, 1, 2, 3]) := by decide +kernel
theorem bf257_12 : am_fetch (am_mth 257) 12 = some (.astore_n 3, 1, [], [0, 1, 2, 3]) := by decide +kernel
theorem bf257_13 : am_fetch (am_mth 257) 13 = some (.iconst 1, 1, [], [0, 1, 2, 3]) := by decide +kernel
theorem bf257_14 : am_fetch (am_mth 257) 14 = some (.ireturn, 1, [0], [0, 1, 2, 3]) := by decide +kernel
theorem bf257_15 : am_fetch (am_mth 257) 15 = some (.iconst 0, 1, [], [0, 1, 2, 3]) := by decide +kernel
theorem bf257_16 : am_fetch (am_mth 257) 16 = some (.ireturn, 1, [0], [0, 1, 2, 3]) := by decide +kernel
theorem bk257_0 {w : am_Wd} {l0 : Nat} {l1 : Int32} {l2 : Nat} : am_run 257 0 [some (.ref l0), some (.int l1), some (.ref l2), none] [] w = (am_kf w l0 8).bind fun _ => (am_x 243 [.ref l0, .int l1] w).bind fun r => am_af 257 3 r (fun v w' => am_run 257 6 [none, none, none, none] (v.toList ++ [.ref l2]) w') (fun h w' => am_run 257 h (am_nrm 257 h [none, none, none, none]) [] w') := by
  refine (bu (ls'' := [some (.ref l0), some (.int l1), none, none]) (st' := [.ref l2]) bf257_0 bf257_1 rfl rfl).trans ?_
  refine (bu (ls'' := [none, some (.int l1), none, none]) (st' := [.ref l0, .ref l2]) bf257_1 bf257_2 rfl rfl).trans ?_
  refine (bu (ls'' := [none, none, none, none]) (st' := [.int l1, .ref l0, .ref l2]) bf257_2 bf257_3 rfl rfl).trans ?_
  exact bkHV bf257_3 bf257_6 rfl (by decide +kernel) (Nat.le_of_ble_eq_true rfl) rfl
theorem bk257_6 {w : am_Wd} {s0 : Nat} {s1 : Nat} : am_run 257 6 [none, none, none, none] [.ref s0, .ref s1] w = (am_pf w s1 9 2 (.ref s0)).bind fun w' => am_run 257 9 [none, none, none, none] [] w' := by
  exact bh bf257_6 bf257_9 rfl (bge_pf) rfl
theorem bk257_13 {w : am_Wd}  : am_run 257 13 [none, none, none, none] [] w = some (.inl (some (.int (nI 1))), w) := by
  refine (bu (ls'' := [none, none, none, none]) (st' := [.int (nI 1)]) bf257_13 bf257_14 rfl rfl).trans ?_
  exact am_e2 bf257_14 rfl (am_ge_rf w)
theorem bk257_9 {w : am_Wd}  : am_run 257 9 [none, none, none, none] [] w = some (.inl (some (.int (nI 0))), w) := by
  refine (bu (ls'' := [none, none, none, none]) (st' := []) bf257_9 bf257_15 rfl rfl).trans ?_
  refine (bu (ls'' := [none, none, none, none]) (st' := [.int (nI 0)]) bf257_15 bf257_16 rfl rfl).trans ?_
  exact am_e2 bf257_16 rfl (am_ge_rf w)
theorem bf258_0 : am_fetch (am_mth 258) 0 = some (.aload_n 1, 1, [], []) := by decide +kernel
theorem bf258_1 : am_fetch (am_mth 258) 1 = some (.getfield 107, 3, [0, 10, 2, 1305], []) := by decide +kernel
theorem bf258_4 : am_fetch (am_mth 258) 4 = some (.ifCond .eq 25, 3, [], []) := by decide +kernel
theorem bf258_7 : am_fetch (am_mth 258) 7 = some (.iload_n 2, 1, [], []) := by decide +kernel
theorem bf258_8 : am_fetch (am_mth 258) 8 = some (.ifCond .ne 11, 3, [], [2]) := by decide +kernel
theorem bf258_11 : am_fetch (am_mth 258) 11 = some (.aload_n 0, 1, [], [2]) := by decide +kernel
theorem bf258_12 : am_fetch (am_mth 258) 12 = some (.aload_n 1, 1, [], [2]) := by decide +kernel
theorem bf258_13 : am_fetch (am_mth 258) 13 = some (.invokevirtual 136, 3, [0, 251, 1, 11, 1415, 1417, 26, 48], [1, 2]) := by decide +kernel
theorem bf258_16 : am_fetch (am_mth 258) 16 = some (.ifCond .eq 13, 3, [], [1, 2]) := by decide +kernel
theorem bf258_19 : am_fetch (am_mth 258) 19 = some (.aload_n 0, 1, [], [1, 2]) := by decide +kernel
theorem bf258_20 : am_fetch (am_mth 258) 20 = some (.getfield 54, 3, [0, 11, 1, 1198], [0, 1, 2]) := by decide +kernel
theorem bf258_23 : am_fetch (am_mth 258) 23 = some (.sipush 3000, 3, [], [0, 1, 2]) := by decide +kernel
theorem bf258_26 : am_fetch (am_mth 258) 26 = some (.if_icmp .ne 7, 3, [], [0, 1, 2]) := by decide +kernel
theorem bf258_29 : am_fetch (am_mth 258) 29 = some (.iconst 1, 1, [], [0, 1, 2]) := by decide +kernel
theorem bf258_30 : am_fetch (am_mth 258) 30 = some (.goto 4, 3, [], [0, 1, 2]) := by decide +kernel
theorem bf258_33 : am_fetch (am_mth 258) 33 = some (.iconst 0, 1, [], [0, 1, 2]) := by decide +kernel
theorem bf258_34 : am_fetch (am_mth 258) 34 = some (.ireturn, 1, [1], [0, 1, 2]) := by decide +kernel
theorem bk258_0 {w : am_Wd} {l0 : Nat} {l1 : Nat} {l2 : Int32} : am_run 258 0 [some (.ref l0), some (.ref l1), some (.int l2)] [] w = (am_gf w l1 10 2).bind fun v => am_run 258 4 [some (.ref l0), some (.ref l1), some (.int l2)] (v :: []) w := by
  refine (bu (ls'' := [some (.ref l0), some (.ref l1), some (.int l2)]) (st' := [.ref l1]) bf258_0 bf258_1 rfl rfl).trans ?_
  exact bh bf258_1 bf258_4 rfl (fun _ _ => am_ge_rf w) rfl
theorem bk258_4 {w : am_Wd} {l0 : Nat} {l1 : Nat} {l2 : Int32} {s0 : Int32} : am_run 258 4 [some (.ref l0), some (.ref l1), some (.int l2)] [.int s0] w = if s0 = nI 0 then am_run 258 29 [none, none, none] [] w else am_run 258 7 [some (.ref l0), some (.ref l1), some (.int l2)] [] w := by
  exact bifc bf258_4 rfl bf258_29 bf258_7 rfl rfl rfl
theorem bk258_29 {w : am_Wd}  : am_run 258 29 [none, none, none] [] w = am_run 258 34 [none, none, none] [.int (nI 1)] w := by
  refine (bu (ls'' := [none, none, none]) (st' := [.int (nI 1)]) bf258_29 bf258_30 rfl rfl).trans ?_
  refine (bu (ls'' := [none, none, none]) (st' := [.int (nI 1)]) bf258_30 bf258_34 rfl rfl).trans ?_
  rfl
theorem bk258_7 {w : am_Wd} {l0 : Nat} {l1 : Nat} {l2 : Int32} : am_run 258 7 [some (.ref l0), some (.ref l1), some (.int l2)] [] w = if ¬ l2 = nI 0 then am_run 258 19 [some (.ref l0), none, none] [] w else am_run 258 11 [some (.ref l0), some (.ref l1), none] [] w := by
  refine (bu (ls'' := [some (.ref l0), some (.ref l1), none]) (st' := [.int l2]) bf258_7 bf258_8 rfl rfl).trans ?_
  exact bifc bf258_8 rfl bf258_19 bf258_11 rfl rfl rfl
theorem bk258_34 {w : am_Wd} {s0 : Int32} (hb : am_ok (am_rt 1) (.int s0) = true) : am_run 258 34 [none, none, none] [.int s0] w = some (.inl (some (.int s0)), w) := by
  exact am_e2 bf258_34 (by unfold am_stp; exact if_pos ⟨by decide, hb⟩) (am_ge_rf w)
theorem bk258_19 {w : am_Wd} {l0 : Nat} : am_run 258 19 [some (.ref l0), none, none] [] w = (am_gf w l0 11 1).bind fun v => am_run 258 23 [none, none, none] (v :: []) w := by
  refine (bu (ls'' := [none, none, none]) (st' := [.ref l0]) bf258_19 bf258_20 rfl rfl).trans ?_
  exact bh bf258_20 bf258_23 rfl (fun _ _ => am_ge_rf w) rfl
theorem bk258_11 {w : am_Wd} {l0 : Nat} {l1 : Nat} : am_run 258 11 [some (.ref l0), some (.ref l1), none] [] w = (am_kf w l0 11).bind fun _ => (am_x 251 [.ref l0, .ref l1] w).bind fun r => bct r fun v w' => am_run 258 16 [some (.ref l0), none, none] (v.toList ++ []) w' := by
  refine (bu (ls'' := [some (.ref l0), some (.ref l1), none]) (st' := [.ref l0]) bf258_11 bf258_12 rfl rfl).trans ?_
  refine (bu (ls'' := [some (.ref l0), none, none]) (st' := [.ref l1, .ref l0]) bf258_12 bf258_13 rfl rfl).trans ?_
  exact bkV bf258_13 bf258_16 rfl (by decide +kernel) (Nat.le_of_ble_eq_true rfl) rfl (bhd rfl)
theorem bk258_23 {w : am_Wd} {s0 : Int32} : am_run 258 23 [none, none, none] [.int s0] w = if ¬ s0 = (nI 3000) then am_run 258 33 [none, none, none] [] w else am_run 258 29 [none, none, none] [] w := by
  refine (bu (ls'' := [none, none, none]) (st' := [.int (nI 3000), .int s0]) bf258_23 bf258_26 rfl rfl).trans ?_
  exact bic bf258_26 rfl bf258_33 bf258_29 rfl rfl rfl
theorem bk258_16 {w : am_Wd} {l0 : Nat} {s0 : Int32} : am_run 258 16 [some (.ref l0), none, none] [.int s0] w = if s0 = nI 0 then am_run 258 29 [none, none, none] [] w else am_run 258 19 [some (.ref l0), none, none] [] w := by
  exact bifc bf258_16 rfl bf258_29 bf258_19 rfl rfl rfl
theorem bk258_33 {w : am_Wd}  : am_run 258 33 [none, none, none] [] w = am_run 258 34 [none, none, none] [.int (nI 0)] w := by
  refine (bu (ls'' := [none, none, none]) (st' := [.int (nI 0)]) bf258_33 bf258_34 rfl rfl).trans ?_
  rfl
theorem bf259_0 : am_fetch (am_mth 259) 0 = some (.iload_n 2, 1, [], []) := by decide +kernel
theorem bf259_1 : am_fetch (am_mth 259) 1 = some (.ifCond .ne 11, 3, [], []) := by decide +kernel
theorem bf259_4 : am_fetch (am_mth 259) 4 = some (.aload_n 0, 1, [], [2]) := by decide +kernel
theorem bf259_5 : am_fetch (am_mth 259) 5 = some (.aload_n 1, 1, [], [0, 2]) := by decide +kernel
theorem bf259_6 : am_fetch (am_mth 259) 6 = some (.invokevirtual 129, 3, [0, 226, 1, 11, 1423, 1425, 28, 48], [0, 1, 2]) := by decide +kernel
theorem bf259_9 : am_fetch (am_mth 259) 9 = some (.goto 42, 3, [], [0, 1, 2]) := by decide +kernel
theorem bf259_12 : am_fetch (am_mth 259) 12 = some (.iload_n 2, 1, [], []) := by decide +kernel
theorem bf259_13 : am_fetch (am_mth 259) 13 = some (.iconst 1, 1, [], []) := by decide +kernel
theorem bf259_14 : am_fetch (am_mth 259) 14 = some (.if_icmp .ne 11, 3, [], []) := by decide +kernel
theorem bf259_17 : am_fetch (am_mth 259) 17 = some (.aload_n 0, 1, [], [2]) := by decide +kernel
theorem bf259_18 : am_fetch (am_mth 259) 18 = some (.aload_n 1, 1, [], [0, 2]) := by decide +kernel
theorem bf259_19 : am_fetch (am_mth 259) 19 = some (.invokevirtual 133, 3, [0, 245, 1, 11, 1419, 1421, 27, 48], [0, 1, 2]) := by decide +kernel
theorem bf259_22 : am_fetch (am_mth 259) 22 = some (.goto 29, 3, [], [0, 1, 2]) := by decide +kernel
theorem bf259_25 : am_fetch (am_mth 259) 25 = some (.iload_n 2, 1, [], []) := by decide +kernel
theorem bf259_26 : am_fetch (am_mth 259) 26 = some (.iconst 2, 1, [], [2]) := by decide +kernel
theorem bf259_27 : am_fetch (am_mth 259) 27 = some (.if_icmp .ne 19, 3, [], [2]) := by decide +kernel
theorem bf259_30 : am_fetch (am_mth 259) 30 = some (.aload_n 0, 1, [], [2]) := by decide +kernel
theorem bf259_31 : am_fetch (am_mth 259) 31 = some (.aload_n 1, 1, [], [0, 2]) := by decide +kernel
theorem bf259_32 : am_fetch (am_mth 259) 32 = some (.invokevirtual 136, 3, [0, 251, 1, 11, 1415, 1417, 26, 48], [0, 1, 2]) := by decide +kernel
theorem bf259_35 : am_fetch (am_mth 259) 35 = some (.ifCond .eq 7, 3, [], [0, 1, 2]) := by decide +kernel
theorem bf259_38 : am_fetch (am_mth 259) 38 = some (.iconst 1, 1, [], [0, 1, 2]) := by decide +kernel
theorem bf259_39 : am_fetch (am_mth 259) 39 = some (.goto 12, 3, [], [0, 1, 2]) := by decide +kernel
theorem bf259_42 : am_fetch (am_mth 259) 42 = some (.iconst 0, 1, [], [0, 1, 2]) := by decide +kernel
theorem bf259_43 : am_fetch (am_mth 259) 43 = some (.goto 8, 3, [], [0, 1, 2]) := by decide +kernel
theorem bf259_46 : am_fetch (am_mth 259) 46 = some (.aload_n 0, 1, [], [2]) := by decide +kernel
theorem bf259_47 : am_fetch (am_mth 259) 47 = some (.aload_n 1, 1, [], [0, 2]) := by decide +kernel
theorem bf259_48 : am_fetch (am_mth 259) 48 = some (.invokevirtual 277, 3, [0, 229, 1, 11, 1648, 1650, 40, 48], [0, 1, 2]) := by decide +kernel
theorem bf259_51 : am_fetch (am_mth 259) 51 = some (.ireturn, 1, [0], [0, 1, 2]) := by decide +kernel
theorem bk259_0 {w : am_Wd} {l0 : Nat} {l1 : Nat} {l2 : Int32} : am_run 259 0 [some (.ref l0), some (.ref l1), some (.int l2)] [] w = if ¬ l2 = nI 0 then am_run 259 12 [some (.ref l0), some (.ref l1), some (.int l2)] [] w else am_run 259 4 [some (.ref l0), some (.ref l1), none] [] w := by
  refine (bu (ls'' := [some (.ref l0), some (.ref l1), some (.int l2)]) (st' := [.int l2]) bf259_0 bf259_1 rfl rfl).trans ?_
  exact bifc bf259_1 rfl bf259_12 bf259_4 rfl rfl rfl
theorem bk259_12 {w : am_Wd} {l0 : Nat} {l1 : Nat} {l2 : Int32} : am_run 259 12 [some (.ref l0), some (.ref l1), some (.int l2)] [] w = if ¬ l2 = (nI 1) then am_run 259 25 [some (.ref l0), some (.ref l1), some (.int l2)] [] w else am_run 259 17 [some (.ref l0), some (.ref l1), none] [] w := by
  refine (bu (ls'' := [some (.ref l0), some (.ref l1), some (.int l2)]) (st' := [.int l2]) bf259_12 bf259_13 rfl rfl).trans ?_
  refine (bu (ls'' := [some (.ref l0), some (.ref l1), some (.int l2)]) (st' := [.int (nI 1), .int l2]) bf259_13 bf259_14 rfl rfl).trans ?_
  exact bic bf259_14 rfl bf259_25 bf259_17 rfl rfl rfl
theorem bk259_4 {w : am_Wd} {l0 : Nat} {l1 : Nat} : am_run 259 4 [some (.ref l0), some (.ref l1), none] [] w = (am_kf w l0 11).bind fun _ => (am_x 226 [.ref l0, .ref l1] w).bind fun r => bct r fun v w' => am_run 259 9 [none, none, none] (v.toList ++ []) w' := by
  refine (bu (ls'' := [none, some (.ref l1), none]) (st' := [.ref l0]) bf259_4 bf259_5 rfl rfl).trans ?_
  refine (bu (ls'' := [none, none, none]) (st' := [.ref l1, .ref l0]) bf259_5 bf259_6 rfl rfl).trans ?_
  exact bkV bf259_6 bf259_9 rfl (by decide +kernel) (Nat.le_of_ble_eq_true rfl) rfl (bhd rfl)
theorem bk259_25 {w : am_Wd} {l0 : Nat} {l1 : Nat} {l2 : Int32} : am_run 259 25 [some (.ref l0), some (.ref l1), some (.int l2)] [] w = if ¬ l2 = (nI 2) then am_run 259 46 [some (.ref l0), some (.ref l1), none] [] w else am_run 259 30 [some (.ref l0), some (.ref l1), none] [] w := by
  refine (bu (ls'' := [some (.ref l0), some (.ref l1), none]) (st' := [.int l2]) bf259_25 bf259_26 rfl rfl).trans ?_
  refine (bu (ls'' := [some (.ref l0), some (.ref l1), none]) (st' := [.int (nI 2), .int l2]) bf259_26 bf259_27 rfl rfl).trans ?_
  exact bic bf259_27 rfl bf259_46 bf259_30 rfl rfl rfl
theorem bk259_17 {w : am_Wd} {l0 : Nat} {l1 : Nat} : am_run 259 17 [some (.ref l0), some (.ref l1), none] [] w = (am_kf w l0 11).bind fun _ => (am_x 245 [.ref l0, .ref l1] w).bind fun r => bct r fun v w' => am_run 259 22 [none, none, none] (v.toList ++ []) w' := by
  refine (bu (ls'' := [none, some (.ref l1), none]) (st' := [.ref l0]) bf259_17 bf259_18 rfl rfl).trans ?_
  refine (bu (ls'' := [none, none, none]) (st' := [.ref l1, .ref l0]) bf259_18 bf259_19 rfl rfl).trans ?_
  exact bkV bf259_19 bf259_22 rfl (by decide +kernel) (Nat.le_of_ble_eq_true rfl) rfl (bhd rfl)
theorem bk259_9 {w : am_Wd} {s0 : Int32} : am_run 259 9 [none, none, none] [.int s0] w = am_run 259 51 [none, none, none] [.int s0] w := by
  refine (bu (ls'' := [none, none, none]) (st' := [.int s0]) bf259_9 bf259_51 rfl rfl).trans ?_
  rfl
theorem bk259_46 {w : am_Wd} {l0 : Nat} {l1 : Nat} : am_run 259 46 [some (.ref l0), some (.ref l1), none] [] w = (am_kf w l0 11).bind fun _ => (am_x 229 [.ref l0, .ref l1] w).bind fun r => bct r fun v w' => am_run 259 51 [none, none, none] (v.toList ++ []) w' := by
  refine (bu (ls'' := [none, some (.ref l1), none]) (st' := [.ref l0]) bf259_46 bf259_47 rfl rfl).trans ?_
  refine (bu (ls'' := [none, none, none]) (st' := [.ref l1, .ref l0]) bf259_47 bf259_48 rfl rfl).trans ?_
  exact bkV bf259_48 bf259_51 rfl (by decide +kernel) (Nat.le_of_ble_eq_true rfl) rfl (bhd rfl)
theorem bk259_30 {w : am_Wd} {l0 : Nat} {l1 : Nat} : am_run 259 30 [some (.ref l0), some (.ref l1), none] [] w = (am_kf w l0 11).bind fun _ => (am_x 251 [.ref l0, .ref l1] w).bind fun r => bct r fun v w' => am_run 259 35 [none, none, none] (v.toList ++ []) w' := by
  refine (bu (ls'' := [none, some (.ref l1), none]) (st' := [.ref l0]) bf259_30 bf259_31 rfl rfl).trans ?_
  refine (bu (ls'' := [none, none, none]) (st' := [.ref l1, .ref l0]) bf259_31 bf259_32 rfl rfl).trans ?_
  exact bkV bf259_32 bf259_35 rfl (by decide +kernel) (Nat.le_of_ble_eq_true rfl) rfl (bhd rfl)
theorem bk259_22 {w : am_Wd} {s0 : Int32} : am_run 259 22 [none, none, none] [.int s0] w = am_run 259 51 [none, none, none] [.int s0] w := by
  refine (bu (ls'' := [none, none, none]) (st' := [.int s0]) bf259_22 bf259_51 rfl rfl).trans ?_
  rfl
theorem bk259_51 {w : am_Wd} {s0 : Int32} : am_run 259 51 [none, none, none] [.int s0] w = some (.inl (some (.int s0)), w) := by
  exact am_e2 bf259_51 rfl (am_ge_rf w)
theorem bk259_35 {w : am_Wd} {s0 : Int32} : am_run 259 35 [none, none, none] [.int s0] w = if s0 = nI 0 then am_run 259 42 [none, none, none] [] w else am_run 259 38 [none, none, none] [] w := by
  exact bifc bf259_35 rfl bf259_42 bf259_38 rfl rfl rfl
theorem bk259_42 {w : am_Wd}  : am_run 259 42 [none, none, none] [] w = am_run 259 51 [none, none, none] [.int (nI 0)] w := by
  refine (bu (ls'' := [none, none, none]) (st' := [.int (nI 0)]) bf259_42 bf259_43 rfl rfl).trans ?_
  refine (bu (ls'' := [none, none, none]) (st' := [.int (nI 0)]) bf259_43 bf259_51 rfl rfl).trans ?_
  rfl
theorem bk259_38 {w : am_Wd}  : am_run 259 38 [none, none, none] [] w = am_run 259 51 [none, none, none] [.int (nI 1)] w := by
  refine (bu (ls'' := [none, none, none]) (st' := [.int (nI 1)]) bf259_38 bf259_39 rfl rfl).trans ?_
  refine (bu (ls'' := [none, none, none]) (st' := [.int (nI 1)]) bf259_39 bf259_51 rfl rfl).trans ?_
  rfl
theorem bf260_0 : am_fetch (am_mth 260) 0 = some (.aload_n 0, 1, [], [3, 4, 5, 6, 7, 8, 9]) := by decide +kernel
theorem bf260_1 : am_fetch (am_mth 260) 1 = some (.aload_n 0, 1, [], [3, 4, 5, 6, 7, 8, 9]) := by decide +kernel
theorem bf260_2 : am_fetch (am_mth 260) 2 = some (.iload_n 1, 1, [], [3, 4, 5, 6, 7, 8, 9]) := by decide +kernel
theorem bf260_3 : am_fetch (am_mth 260) 3 = some (.invokevirtual 149, 3, [0, 99, 1, 11, 1387, 1389, 24, 48], [3, 4, 5, 6, 7, 8, 9]) := by decide +kernel
theorem bf260_6 : am_fetch (am_mth 260) 6 = some (.iconst 1, 1, [], [3, 4, 5, 6, 7, 8, 9]) := by decide +kernel
theorem bf260_7 : am_fetch (am_mth 260) 7 = some (.invokevirtual 83, 3, [0, 96, 2, 11, 1251, 1253, 18, 48], [3, 4, 5, 6, 7, 8, 9]) := by decide +kernel
theorem bf260_10 : am_fetch (am_mth 260) 10 = some (.ifCond .eq 5, 3, [], [3, 4, 5, 6, 7, 8, 9]) := by decide +kernel
theorem bf260_13 : am_fetch (am_mth 260) 13 = some (.iconst 0, 1, [], [0, 1, 2, 3, 4, 5, 6, 7, 8, 9]) := by decide +kernel
theorem bf260_14 : am_fetch (am_mth 260) 14 = some (.ireturn, 1, [1], [0, 1, 2, 3, 4, 5, 6, 7, 8, 9]) := by decide +kernel
theorem bf260_15 : am_fetch (am_mth 260) 15 = some (.aload_n 0, 1, [], [3, 4, 5, 6, 7, 8, 9]) := by decide +kernel
theorem bf260_16 : am_fetch (am_mth 260) 16 = some (.getfield 31, 3, [0, 11, 11, 1208], [3, 4, 5, 6, 7, 8, 9]) := by decide +kernel
theorem bf260_19 : am_fetch (am_mth 260) 19 = some (.iload_n 1, 1, [], [3, 4, 5, 6, 7, 8, 9]) := by decide +kernel
theorem bf260_20 : am_fetch (am_mth 260) 20 = some (.invokevirtual 152, 3, [0, 150, 1, 3, 1391, 1392, 1393, 51], [1, 3, 4, 5, 6, 7, 8, 9]) := by decide +kernel
theorem bf260_23 : am_fetch (am_mth 260) 23 = some (.checkcast 72, 3, [0, 10, 1295], [1, 3, 4, 5, 6, 7, 8, 9]) := by decide +kernel
theorem bf260_26 : am_fetch (am_mth 260) 26 = some (.astore_n 3, 1, [], [1, 3, 4, 5, 6, 7, 8, 9]) := by decide +kernel
theorem bf260_27 : am_fetch (am_mth 260) 27 = some (.aload_n 3, 1, [], [1, 4, 5, 6, 7, 8, 9]) := by decide +kernel
theorem bf260_28 : am_fetch (am_mth 260) 28 = some (.invokevirtual 122, 3, [0, 95, 0, 10, 1403, 1404, 1405, 66], [1, 4, 5, 6, 7, 8, 9]) := by decide +kernel
theorem bf260_31 : am_fetch (am_mth 260) 31 = some (.istore 4, 2, [], [1, 4, 5, 6, 7, 8, 9]) := by decide +kernel
theorem bf260_33 : am_fetch (am_mth 260) 33 = some (.iload 4, 2, [], [1, 5, 6, 7, 8, 9]) := by decide +kernel
theorem bf260_35 : am_fetch (am_mth 260) 35 = some (.iconst (-1), 1, [], [1, 5, 6, 7, 8, 9]) := by decide +kernel
theorem bf260_36 : am_fetch (am_mth 260) 36 = some (.if_icmp .ne 7, 3, [], [1, 5, 6, 7, 8, 9]) := by decide +kernel
theorem bf260_39 : am_fetch (am_mth 260) 39 = some (.iconst (-1), 1, [], [1, 5, 6, 7, 8, 9]) := by decide +kernel
theorem bf260_40 : am_fetch (am_mth 260) 40 = some (.goto 14, 3, [], [1, 5, 6, 7, 8, 9]) := by decide +kernel
theorem bf260_43 : am_fetch (am_mth 260) 43 = some (.iload 4, 2, [], [1, 5, 6, 7, 8, 9]) := by decide +kernel
theorem bf260_45 : am_fetch (am_mth 260) 45 = some (.iconst 4, 1, [], [1, 5, 6, 7, 8, 9]) := by decide +kernel
theorem bf260_46 : am_fetch (am_mth 260) 46 = some (.idiv, 1, [], [1, 5, 6, 7, 8, 9]) := by decide +kernel
theorem bf260_47 : am_fetch (am_mth 260) 47 = some (.iload 4, 2, [], [1, 5, 6, 7, 8, 9]) := by decide +kernel
theorem bf260_49 : am_fetch (am_mth 260) 49 = some (.iconst 4, 1, [], [1, 5, 6, 7, 8, 9]) := by decide +kernel
theorem bf260_50 : am_fetch (am_mth 260) 50 = some (.irem, 1, [], [1, 5, 6, 7, 8, 9]) := by decide +kernel
theorem bf260_51 : am_fetch (am_mth 260) 51 = some (.invokestatic 50, 3, [0, 100, 2, 1259, 1260, 48], [1, 5, 6, 7, 8, 9]) := by decide +kernel
theorem bf260_54 : am_fetch (am_mth 260) 54 = some (.istore 5, 2, [], [1, 5, 6, 7, 8, 9]) := by decide +kernel
theorem bf260_56 : am_fetch (am_mth 260) 56 = some (.aload_n 0, 1, [], [1, 6, 7, 8, 9]) := by decide +kernel
theorem bf260_57 : am_fetch (am_mth 260) 57 = some (.aload_n 0, 1, [], [1, 6, 7, 8, 9]) := by decide +kernel
theorem bf260_58 : am_fetch (am_mth 260) 58 = some (.aload_n 3, 1, [], [1, 6, 7, 8, 9]) := by decide +kernel
theorem bf260_59 : am_fetch (am_mth 260) 59 = some (.iload_n 2, 1, [], [1, 6, 7, 8, 9]) := by decide +kernel
theorem bf260_60 : am_fetch (am_mth 260) 60 = some (.invokevirtual 156, 3, [0, 258, 2, 11, 1411, 1413, 25, 48], [1, 2, 6, 7, 8, 9]) := by decide +kernel
theorem bf260_63 : am_fetch (am_mth 260) 63 = some (.ifCond .ne 19, 3, [], [1, 2, 6, 7, 8, 9]) := by decide +kernel
theorem bf260_66 : am_fetch (am_mth 260) 66 = some (.iload 5, 2, [], [1, 2, 6, 7, 8, 9]) := by decide +kernel
theorem bf260_68 : am_fetch (am_mth 260) 68 = some (.iconst (-1), 1, [], [1, 2, 6, 7, 8, 9]) := by decide +kernel
theorem bf260_69 : am_fetch (am_mth 260) 69 = some (.if_icmp .eq 17, 3, [], [1, 2, 6, 7, 8, 9]) := by decide +kernel
theorem bf260_72 : am_fetch (am_mth 260) 72 = some (.aload_n 0, 1, [], [1, 2, 6, 7, 8, 9]) := by decide +kernel
theorem bf260_73 : am_fetch (am_mth 260) 73 = some (.getfield 25, 3, [0, 11, 10, 1207], [1, 2, 6, 7, 8, 9]) := by decide +kernel
theorem bf260_76 : am_fetch (am_mth 260) 76 = some (.iload 5, 2, [], [1, 2, 6, 7, 8, 9]) := by decide +kernel
theorem bf260_78 : am_fetch (am_mth 260) 78 = some (.baload, 1, [2], [1, 2, 5, 6, 7, 8, 9]) := by decide +kernel
theorem bf260_79 : am_fetch (am_mth 260) 79 = some (.ifCond .eq 7, 3, [], [1, 2, 5, 6, 7, 8, 9]) := by decide +kernel
theorem bf260_82 : am_fetch (am_mth 260) 82 = some (.iconst 1, 1, [], [1, 2, 5, 6, 7, 8, 9]) := by decide +kernel
theorem bf260_83 : am_fetch (am_mth 260) 83 = some (.goto 4, 3, [], [1, 2, 5, 6, 7, 8, 9]) := by decide +kernel
theorem bf260_86 : am_fetch (am_mth 260) 86 = some (.iconst 0, 1, [], [1, 2, 5, 6, 7, 8, 9]) := by decide +kernel
theorem bf260_87 : am_fetch (am_mth 260) 87 = some (.iconst 2, 1, [], [1, 2, 5, 6, 7, 8, 9]) := by decide +kernel
theorem bf260_88 : am_fetch (am_mth 260) 88 = some (.invokevirtual 38, 3, [0, 40, 2, 11, 1255, 1257, 19, 48], [1, 2, 5, 6, 7, 8, 9]) := by decide +kernel
theorem bf260_91 : am_fetch (am_mth 260) 91 = some (.ifCond .eq 5, 3, [], [1, 2, 5, 6, 7, 8, 9]) := by decide +kernel
theorem bf260_94 : am_fetch (am_mth 260) 94 = some (.iconst 0, 1, [], [0, 1, 2, 3, 4, 5, 6, 7, 8, 9]) := by decide +kernel
theorem bf260_95 : am_fetch (am_mth 260) 95 = some (.ireturn, 1, [1], [0, 1, 2, 3, 4, 5, 6, 7, 8, 9]) := by decide +kernel
theorem bf260_96 : am_fetch (am_mth 260) 96 = some (.aload_n 3, 1, [], [1, 2, 5, 6, 7, 8, 9]) := by decide +kernel
theorem bf260_97 : am_fetch (am_mth 260) 97 = some (.invokevirtual 160, 3, [0, 38, 0, 10, 1434, 1435, 1436, 66], [1, 2, 5, 6, 7, 8, 9]) := by decide +kernel
theorem bf260_100 : am_fetch (am_mth 260) 100 = some (.istore 6, 2, [], [1, 2, 5, 6, 7, 8, 9]) := by decide +kernel
theorem bf260_102 : am_fetch (am_mth 260) 102 = some (.aload_n 3, 1, [], [1, 2, 5, 7, 8, 9]) := by decide +kernel
theorem bf260_103 : am_fetch (am_mth 260) 103 = some (.getfield 101, 3, [0, 10, 0, 1303], [1, 2, 5, 7, 8, 9]) := by decide +kernel
theorem bf260_106 : am_fetch (am_mth 260) 106 = some (.iconst 4, 1, [], [1, 2, 5, 7, 8, 9]) := by decide +kernel
theorem bf260_107 : am_fetch (am_mth 260) 107 = some (.irem, 1, [], [1, 2, 5, 7, 8, 9]) := by decide +kernel
theorem bf260_108 : am_fetch (am_mth 260) 108 = some (.istore 7, 2, [], [1, 2, 5, 7, 8, 9]) := by decide +kernel
theorem bf260_110 : am_fetch (am_mth 260) 110 = some (.aload_n 0, 1, [], [1, 2, 5, 8, 9]) := by decide +kernel
theorem bf260_111 : am_fetch (am_mth 260) 111 = some (.iload 6, 2, [], [1, 2, 5, 8, 9]) := by decide +kernel
theorem bf260_113 : am_fetch (am_mth 260) 113 = some (.iload 7, 2, [], [1, 2, 5, 8, 9]) := by decide +kernel
theorem bf260_115 : am_fetch (am_mth 260) 115 = some (.invokevirtual 163, 3, [0, 173, 2, 11, 1438, 1440, 30, 48], [1, 2, 5, 8, 9]) := by decide +kernel
theorem bf260_118 : am_fetch (am_mth 260) 118 = some (.istore 8, 2, [], [1, 2, 5, 8, 9]) := by decide +kernel
theorem bf260_120 : am_fetch (am_mth 260) 120 = some (.iload 8, 2, [], [1, 2, 5, 9]) := by decide +kernel
theorem bf260_122 : am_fetch (am_mth 260) 122 = some (.ifCond .ne 99, 3, [], [1, 2, 5, 9]) := by decide +kernel
theorem bf260_125 : am_fetch (am_mth 260) 125 = some (.iconst 0, 1, [], [1, 2, 5, 9]) := by decide +kernel
theorem bf260_126 : am_fetch (am_mth 260) 126 = some (.istore 9, 2, [], [1, 2, 5, 9]) := by decide +kernel
theorem bf260_128 : am_fetch (am_mth 260) 128 = some (.aload_n 0, 1, [], [1, 2, 5]) := by decide +kernel
theorem bf260_129 : am_fetch (am_mth 260) 129 = some (.getfield 21, 3, [0, 11, 9, 1206], [1, 2, 5]) := by decide +kernel
theorem bf260_132 : am_fetch (am_mth 260) 132 = some (.iload 6, 2, [], [1, 2, 5]) := by decide +kernel
theorem bf260_134 : am_fetch (am_mth 260) 134 = some (.baload, 1, [2], [1, 2, 5]) := by decide +kernel
theorem bf260_135 : am_fetch (am_mth 260) 135 = some (.ifCond .eq 46, 3, [], [1, 2, 5]) := by decide +kernel
theorem bf260_138 : am_fetch (am_mth 260) 138 = some (.aload_n 0, 1, [], [1, 2, 5, 9]) := by decide +kernel
theorem bf260_139 : am_fetch (am_mth 260) 139 = some (.getfield 7, 3, [0, 11, 2, 1199], [1, 2, 5, 9]) := by decide +kernel
theorem bf260_142 : am_fetch (am_mth 260) 142 = some (.iconst 3, 1, [], [1, 2, 5, 9]) := by decide +kernel
theorem bf260_143 : am_fetch (am_mth 260) 143 = some (.irem, 1, [], [1, 2, 5, 9]) := by decide +kernel
theorem bf260_144 : am_fetch (am_mth 260) 144 = some (.ifCond .ne 7, 3, [], [1, 2, 5, 9]) := by decide +kernel
theorem bf260_147 : am_fetch (am_mth 260) 147 = some (.iconst 1, 1, [], [1, 2, 5, 9]) := by decide +kernel
theorem bf260_148 : am_fetch (am_mth 260) 148 = some (.goto 4, 3, [], [1, 2, 5, 9]) := by decide +kernel
theorem bf260_151 : am_fetch (am_mth 260) 151 = some (.iconst 0, 1, [], [1, 2, 5, 9]) := by decide +kernel
theorem bf260_152 : am_fetch (am_mth 260) 152 = some (.istore 9, 2, [], [1, 2, 5, 9]) := by decide +kernel
theorem bf260_154 : am_fetch (am_mth 260) 154 = some (.aload_n 0, 1, [], [1, 2, 5]) := by decide +kernel
theorem bf260_155 : am_fetch (am_mth 260) 155 = some (.bipush 29, 2, [], [1, 2, 5]) := by decide +kernel
theorem bf260_157 : am_fetch (am_mth 260) 157 = some (.aload_n 0, 1, [], [1, 2, 5]) := by decide +kernel
theorem bf260_158 : am_fetch (am_mth 260) 158 = some (.getfield 7, 3, [0, 11, 2, 1199], [1, 2, 5]) := by decide +kernel
theorem bf260_161 : am_fetch (am_mth 260) 161 = some (.imul, 1, [], [1, 2, 5]) := by decide +kernel
theorem bf260_162 : am_fetch (am_mth 260) 162 = some (.bipush 13, 2, [], [1, 2, 5]) := by decide +kernel
theorem bf260_164 : am_fetch (am_mth 260) 164 = some (.iadd, 1, [], [1, 2, 5]) := by decide +kernel
theorem bf260_165 : am_fetch (am_mth 260) 165 = some (.bipush 127, 2, [], [1, 2, 5]) := by decide +kernel
theorem bf260_167 : am_fetch (am_mth 260) 167 = some (.irem, 1, [], [1, 2, 5]) := by decide +kernel
theorem bf260_168 : am_fetch (am_mth 260) 168 = some (.putfield 7, 3, [0, 11, 2, 1199], [1, 2, 5]) := by decide +kernel
theorem bf260_171 : am_fetch (am_mth 260) 171 = some (.aload_n 0, 1, [], [1, 2, 5]) := by decide +kernel
theorem bf260_172 : am_fetch (am_mth 260) 172 = some (.dup, 1, [], [1, 2, 5]) := by decide +kernel
theorem bf260_173 : am_fetch (am_mth 260) 173 = some (.getfield 166, 3, [0, 11, 3, 1200], [1, 2, 5]) := by decide +kernel
theorem bf260_176 : am_fetch (am_mth 260) 176 = some (.iconst 1, 1, [], [1, 2, 5]) := by decide +kernel
theorem bf260_177 : am_fetch (am_mth 260) 177 = some (.iadd, 1, [], [1, 2, 5]) := by decide +kernel
theorem bf260_178 : am_fetch (am_mth 260) 178 = some (.putfield 166, 3, [0, 11, 3, 1200], [1, 2, 5]) := by decide +kernel
theorem bf260_181 : am_fetch (am_mth 260) 181 = some (.aload_n 3, 1, [], [1, 2, 5]) := by decide +kernel
theorem bf260_182 : am_fetch (am_mth 260) 182 = some (.dup, 1, [], [1, 2, 5]) := by decide +kernel
theorem bf260_183 : am_fetch (am_mth 260) 183 = some (.getfield 169, 3, [0, 10, 8, 1313], [1, 2, 5]) := by decide +kernel
theorem bf260_186 : am_fetch (am_mth 260) 186 = some (.iload 9, 2, [], [1, 2, 5]) := by decide +kernel
theorem bf260_188 : am_fetch (am_mth 260) 188 = some (.ifCond .eq 7, 3, [], [1, 2, 5]) := by decide +kernel
theorem bf260_191 : am_fetch (am_mth 260) 191 = some (.iconst 1, 1, [], [1, 2, 5]) := by decide +kernel
theorem bf260_192 : am_fetch (am_mth 260) 192 = some (.goto 4, 3, [], [1, 2, 5]) := by decide +kernel
theorem bf260_195 : am_fetch (am_mth 260) 195 = some (.iconst 0, 1, [], [1, 2, 5]) := by decide +kernel
theorem bf260_196 : am_fetch (am_mth 260) 196 = some (.iadd, 1, [], [1, 2, 5]) := by decide +kernel
theorem bf260_197 : am_fetch (am_mth 260) 197 = some (.putfield 169, 3, [0, 10, 8, 1313], [1, 2, 5]) := by decide +kernel
theorem bf260_200 : am_fetch (am_mth 260) 200 = some (.iload 9, 2, [], [1, 2, 5]) := by decide +kernel
theorem bf260_202 : am_fetch (am_mth 260) 202 = some (.ifCond .ne 19, 3, [], [1, 2, 5, 9]) := by decide +kernel
theorem bf260_205 : am_fetch (am_mth 260) 205 = some (.aload_n 3, 1, [], [1, 2, 5, 9]) := by decide +kernel
theorem bf260_206 : am_fetch (am_mth 260) 206 = some (.iconst 4, 1, [], [1, 2, 5, 9]) := by decide +kernel
theorem bf260_207 : am_fetch (am_mth 260) 207 = some (.iload 6, 2, [], [1, 2, 5, 9]) := by decide +kernel
theorem bf260_209 : am_fetch (am_mth 260) 209 = some (.iload 7, 2, [], [1, 2, 5, 6, 9]) := by decide +kernel
theorem bf260_211 : am_fetch (am_mth 260) 211 = some (.invokestatic 50, 3, [0, 100, 2, 1259, 1260, 48], [1, 2, 5, 6, 9]) := by decide +kernel
theorem bf260_214 : am_fetch (am_mth 260) 214 = some (.imul, 1, [], [1, 2, 5, 6, 9]) := by decide +kernel
theorem bf260_215 : am_fetch (am_mth 260) 215 = some (.iload 7, 2, [], [1, 2, 5, 6, 9]) := by decide +kernel
theorem bf260_217 : am_fetch (am_mth 260) 217 = some (.iadd, 1, [], [1, 2, 5, 6, 7, 9]) := by decide +kernel
theorem bf260_218 : am_fetch (am_mth 260) 218 = some (.putfield 101, 3, [0, 10, 0, 1303], [1, 2, 5, 6, 7, 9]) := by decide +kernel
theorem bf260_221 : am_fetch (am_mth 260) 221 = some (.aload_n 3, 1, [], [1, 2, 5, 6, 7, 9]) := by decide +kernel
theorem bf260_222 : am_fetch (am_mth 260) 222 = some (.dup, 1, [], [1, 2, 5, 6, 7, 9]) := by decide +kernel
theorem bf260_223 : am_fetch (am_mth 260) 223 = some (.getfield 172, 3, [0, 10, 7, 1312], [1, 2, 5, 6, 7, 9]) := by decide +kernel
theorem bf260_226 : am_fetch (am_mth 260) 226 = some (.iload 8, 2, [], [1, 2, 5, 6, 7, 9]) := by decide +kernel
theorem bf260_228 : am_fetch (am_mth 260) 228 = some (.ifCond .eq 7, 3, [], [1, 2, 5, 6, 7, 9]) := by decide +kernel
theorem bf260_231 : am_fetch (am_mth 260) 231 = some (.iconst 1, 1, [], [1, 2, 5, 6, 7, 9]) := by decide +kernel
theorem bf260_232 : am_fetch (am_mth 260) 232 = some (.goto 4, 3, [], [1, 2, 5, 6, 7, 9]) := by decide +kernel
theorem bf260_235 : am_fetch (am_mth 260) 235 = some (.iconst 0, 1, [], [1, 2, 5, 6, 7, 9]) := by decide +kernel
theorem bf260_236 : am_fetch (am_mth 260) 236 = some (.iadd, 1, [], [1, 2, 5, 6, 7, 9]) := by decide +kernel
theorem bf260_237 : am_fetch (am_mth 260) 237 = some (.putfield 172, 3, [0, 10, 7, 1312], [1, 2, 5, 6, 7, 9]) := by decide +kernel
theorem bf260_240 : am_fetch (am_mth 260) 240 = some (.iload 4, 2, [], [1, 2, 5, 6, 7, 9]) := by decide +kernel
theorem bf260_242 : am_fetch (am_mth 260) 242 = some (.iconst (-1), 1, [], [1, 2, 5, 6, 7, 9]) := by decide +kernel
theorem bf260_243 : am_fetch (am_mth 260) 243 = some (.if_icmp .eq 17, 3, [], [1, 2, 5, 6, 7, 9]) := by decide +kernel
theorem bf260_246 : am_fetch (am_mth 260) 246 = some (.aload_n 3, 1, [], [1, 2, 5, 6, 7, 9]) := by decide +kernel
theorem bf260_247 : am_fetch (am_mth 260) 247 = some (.iload 4, 2, [], [1, 2, 5, 6, 7, 9]) := by decide +kernel
theorem bf260_249 : am_fetch (am_mth 260) 249 = some (.iconst 4, 1, [], [1, 2, 5, 6, 7, 9]) := by decide +kernel
theorem bf260_250 : am_fetch (am_mth 260) 250 = some (.idiv, 1, [], [1, 2, 5, 6, 7, 9]) := by decide +kernel
theorem bf260_251 : am_fetch (am_mth 260) 251 = some (.iload 4, 2, [], [1, 2, 5, 6, 7, 9]) := by decide +kernel
theorem bf260_253 : am_fetch (am_mth 260) 253 = some (.iconst 4, 1, [], [1, 2, 4, 5, 6, 7, 9]) := by decide +kernel
theorem bf260_254 : am_fetch (am_mth 260) 254 = some (.irem, 1, [], [1, 2, 4, 5, 6, 7, 9]) := by decide +kernel
theorem bf260_255 : am_fetch (am_mth 260) 255 = some (.iload 8, 2, [], [1, 2, 4, 5, 6, 7, 9]) := by decide +kernel
theorem bf260_257 : am_fetch (am_mth 260) 257 = some (.invokestatic 175, 3, [0, 175, 4, 1450, 1451, 48], [1, 2, 4, 5, 6, 7, 9]) := by decide +kernel
theorem bf260_260 : am_fetch (am_mth 260) 260 = some (.aload_n 3, 1, [], [1, 2, 4, 5, 6, 7, 9]) := by decide +kernel
theorem bf260_261 : am_fetch (am_mth 260) 261 = some (.aload_n 3, 1, [], [1, 2, 4, 5, 6, 7, 9]) := by decide +kernel
theorem bf260_262 : am_fetch (am_mth 260) 262 = some (.iload 8, 2, [], [1, 2, 4, 5, 6, 7, 9]) := by decide +kernel
theorem bf260_264 : am_fetch (am_mth 260) 264 = some (.invokestatic 179, 3, [0, 209, 2, 1453, 1454, 48], [1, 2, 4, 5, 6, 7, 9]) := by decide +kernel
theorem bf260_267 : am_fetch (am_mth 260) 267 = some (.invokestatic 183, 3, [0, 102, 2, 1456, 1457, 48], [1, 2, 4, 5, 6, 7, 9]) := by decide +kernel
theorem bf260_270 : am_fetch (am_mth 260) 270 = some (.aload_n 0, 1, [], [1, 2, 4, 5, 6, 7, 9]) := by decide +kernel
theorem bf260_271 : am_fetch (am_mth 260) 271 = some (.aload_n 3, 1, [], [0, 1, 2, 4, 5, 6, 7, 9]) := by decide +kernel
theorem bf260_272 : am_fetch (am_mth 260) 272 = some (.invokevirtual 187, 3, [0, 46, 1, 11, 1460, 1462, 33, 48], [0, 1, 2, 3, 4, 5, 6, 7, 9]) := by decide +kernel
theorem bf260_275 : am_fetch (am_mth 260) 275 = some (.iload 8, 2, [], [0, 1, 2, 3, 4, 5, 6, 7, 9]) := by decide +kernel
theorem bf260_277 : am_fetch (am_mth 260) 277 = some (.ireturn, 1, [1], [0, 1, 2, 3, 4, 5, 6, 7, 8, 9]) := by decide +kernel
theorem bk260_0 {w : am_Wd} {l0 : Nat} {l1 : Int32} {l2 : Int32} : am_run 260 0 [some (.ref l0), some (.int l1), some (.int l2), none, none, none, none, none, none, none] [] w = (am_kf w l0 11).bind fun _ => (am_x 99 [.ref l0, .int l1] w).bind fun r => bct r fun v w' => am_run 260 6 [some (.ref l0), some (.int l1), some (.int l2), none, none, none, none, none, none, none] (v.toList ++ [.ref l0]) w' := by
  refine (bu (ls'' := [some (.ref l0), some (.int l1), some (.int l2), none, none, none, none, none, none, none]) (st' := [.ref l0]) bf260_0 bf260_1 rfl rfl).trans ?_
  refine (bu (ls'' := [some (.ref l0), some (.int l1), some (.int l2), none, none, none, none, none, none, none]) (st' := [.ref l0, .ref l0]) bf260_1 bf260_2 rfl rfl).trans ?_
  refine (bu (ls'' := [some (.ref l0), some (.int l1), some (.int l2), none, none, none, none, none, none, none]) (st' := [.int l1, .ref l0, .ref l0]) bf260_2 bf260_3 rfl rfl).trans ?_
  exact bkV bf260_3 bf260_6 rfl (by decide +kernel) (Nat.le_of_ble_eq_true rfl) rfl (bhd rfl)
theorem bk260_6 {w : am_Wd} {l0 : Nat} {l1 : Int32} {l2 : Int32} {s0 : Int32} {s1 : Nat} : am_run 260 6 [some (.ref l0), some (.int l1), some (.int l2), none, none, none, none, none, none, none] [.int s0, .ref s1] w = (am_kf w s1 11).bind fun _ => (am_x 96 [.ref s1, .int s0, .int (nI 1)] w).bind fun r => bct r fun v w' => am_run 260 10 [some (.ref l0), some (.int l1), some (.int l2), none, none, none, none, none, none, none] (v.toList ++ []) w' := by
  refine (bu (ls'' := [some (.ref l0), some (.int l1), some (.int l2), none, none, none, none, none, none, none]) (st' := [.int (nI 1), .int s0, .ref s1]) bf260_6 bf260_7 rfl rfl).trans ?_
  exact bkV bf260_7 bf260_10 rfl (by decide +kernel) (Nat.le_of_ble_eq_true rfl) rfl (bhd rfl)
theorem bk260_10 {w : am_Wd} {l0 : Nat} {l1 : Int32} {l2 : Int32} {s0 : Int32} : am_run 260 10 [some (.ref l0), some (.int l1), some (.int l2), none, none, none, none, none, none, none] [.int s0] w = if s0 = nI 0 then am_run 260 15 [some (.ref l0), some (.int l1), some (.int l2), none, none, none, none, none, none, none] [] w else am_run 260 13 [none, none, none, none, none, none, none, none, none, none] [] w := by
  exact bifc bf260_10 rfl bf260_15 bf260_13 rfl rfl rfl
theorem bk260_15 {w : am_Wd} {l0 : Nat} {l1 : Int32} {l2 : Int32} : am_run 260 15 [some (.ref l0), some (.int l1), some (.int l2), none, none, none, none, none, none, none] [] w = (am_gf w l0 11 11).bind fun v => am_run 260 19 [some (.ref l0), some (.int l1), some (.int l2), none, none, none, none, none, none, none] (v :: []) w := by
  refine (bu (ls'' := [some (.ref l0), some (.int l1), some (.int l2), none, none, none, none, none, none, none]) (st' := [.ref l0]) bf260_15 bf260_16 rfl rfl).trans ?_
  exact bh bf260_16 bf260_19 rfl (fun _ _ => am_ge_rf w) rfl
theorem bk260_13 {w : am_Wd}  : am_run 260 13 [none, none, none, none, none, none, none, none, none, none] [] w = some (.inl (some (.int (nI 0))), w) := by
  refine (bu (ls'' := [none, none, none, none, none, none, none, none, none, none]) (st' := [.int (nI 0)]) bf260_13 bf260_14 rfl rfl).trans ?_
  exact am_e2 bf260_14 rfl (am_ge_rf w)
theorem bk260_19 {w : am_Wd} {l0 : Nat} {l1 : Int32} {l2 : Int32} {s0 : Nat} : am_run 260 19 [some (.ref l0), some (.int l1), some (.int l2), none, none, none, none, none, none, none] [.ref s0] w = (am_kf w s0 3).bind fun _ => (am_x 150 [.ref s0, .int l1] w).bind fun r => bct r fun v w' => am_run 260 23 [some (.ref l0), none, some (.int l2), none, none, none, none, none, none, none] (v.toList ++ []) w' := by
  refine (bu (ls'' := [some (.ref l0), none, some (.int l2), none, none, none, none, none, none, none]) (st' := [.int l1, .ref s0]) bf260_19 bf260_20 rfl rfl).trans ?_
  exact bkV bf260_20 bf260_23 rfl (by decide +kernel) (Nat.le_of_ble_eq_true rfl) rfl (bhd rfl)
theorem bk260_23 {w : am_Wd} {l0 : Nat} {l2 : Int32} {s0 : Nat} : am_run 260 23 [some (.ref l0), none, some (.int l2), none, none, none, none, none, none, none] [.ref s0] w = (am_kf w s0 10).bind fun _ => am_run 260 26 [some (.ref l0), none, some (.int l2), none, none, none, none, none, none, none] [.ref s0] w := by
  exact bh bf260_23 bf260_26 rfl (fun _ _ => am_ge_rf w) rfl
theorem bk260_26 {w : am_Wd} {l0 : Nat} {l2 : Int32} {s0 : Nat} : am_run 260 26 [some (.ref l0), none, some (.int l2), none, none, none, none, none, none, none] [.ref s0] w = (am_kf w s0 10).bind fun _ => (am_x 95 [.ref s0] w).bind fun r => bct r fun v w' => am_run 260 31 [some (.ref l0), none, some (.int l2), some (.ref s0), none, none, none, none, none, none] (v.toList ++ []) w' := by
  refine (bu (ls'' := [some (.ref l0), none, some (.int l2), some (.ref s0), none, none, none, none, none, none]) (st' := []) bf260_26 bf260_27 rfl rfl).trans ?_
  refine (bu (ls'' := [some (.ref l0), none, some (.int l2), some (.ref s0), none, none, none, none, none, none]) (st' := [.ref s0]) bf260_27 bf260_28 rfl rfl).trans ?_
  exact bkV bf260_28 bf260_31 rfl (by decide +kernel) (Nat.le_of_ble_eq_true rfl) rfl (bhd rfl)
theorem bk260_31 {w : am_Wd} {l0 : Nat} {l2 : Int32} {l3 : Nat} {s0 : Int32} : am_run 260 31 [some (.ref l0), none, some (.int l2), some (.ref l3), none, none, none, none, none, none] [.int s0] w = if ¬ s0 = (-1 : Int32) then am_run 260 43 [some (.ref l0), none, some (.int l2), some (.ref l3), some (.int s0), none, none, none, none, none] [] w else am_run 260 39 [some (.ref l0), none, some (.int l2), some (.ref l3), some (.int s0), none, none, none, none, none] [] w := by
  refine (bu (ls'' := [some (.ref l0), none, some (.int l2), some (.ref l3), some (.int s0), none, none, none, none, none]) (st' := []) bf260_31 bf260_33 rfl rfl).trans ?_
  refine (bu (ls'' := [some (.ref l0), none, some (.int l2), some (.ref l3), some (.int s0), none, none, none, none, none]) (st' := [.int s0]) bf260_33 bf260_35 rfl rfl).trans ?_
  refine (bu (ls'' := [some (.ref l0), none, some (.int l2), some (.ref l3), some (.int s0), none, none, none, none, none]) (st' := [.int (-1 : Int32), .int s0]) bf260_35 bf260_36 rfl rfl).trans ?_
  exact bic bf260_36 rfl bf260_43 bf260_39 rfl rfl rfl
theorem bk260_43 {w : am_Wd} {l0 : Nat} {l2 : Int32} {l3 : Nat} {l4 : Int32} : am_run 260 43 [some (.ref l0), none, some (.int l2), some (.ref l3), some (.int l4), none, none, none, none, none] [] w = (am_x 100 [.int (l4 / (nI 4)), .int (bj_irem l4 (nI 4))] w).bind fun r => bct r fun v w' => am_run 260 54 [some (.ref l0), none, some (.int l2), some (.ref l3), some (.int l4), none, none, none, none, none] (v.toList ++ []) w' := by
  refine (bu (ls'' := [some (.ref l0), none, some (.int l2), some (.ref l3), some (.int l4), none, none, none, none, none]) (st' := [.int l4]) bf260_43 bf260_45 rfl rfl).trans ?_
  refine (bu (ls'' := [some (.ref l0), none, some (.int l2), some (.ref l3), some (.int l4), none, none, none, none, none]) (st' := [.int (nI 4), .int l4]) bf260_45 bf260_46 rfl rfl).trans ?_
  refine (bu (ls'' := [some (.ref l0), none, some (.int l2), some (.ref l3), some (.int l4), none, none, none, none, none]) (st' := [.int (l4 / (nI 4))]) bf260_46 bf260_47 rfl rfl).trans ?_
  refine (bu (ls'' := [some (.ref l0), none, some (.int l2), some (.ref l3), some (.int l4), none, none, none, none, none]) (st' := [.int l4, .int (l4 / (nI 4))]) bf260_47 bf260_49 rfl rfl).trans ?_
  refine (bu (ls'' := [some (.ref l0), none, some (.int l2), some (.ref l3), some (.int l4), none, none, none, none, none]) (st' := [.int (nI 4), .int l4, .int (l4 / (nI 4))]) bf260_49 bf260_50 rfl rfl).trans ?_
  refine (bu (ls'' := [some (.ref l0), none, some (.int l2), some (.ref l3), some (.int l4), none, none, none, none, none]) (st' := [.int (bj_irem l4 (nI 4)), .int (l4 / (nI 4))]) bf260_50 bf260_51 rfl rfl).trans ?_
  exact bkS bf260_51 bf260_54 rfl (by decide +kernel) (Nat.le_of_ble_eq_true rfl) rfl (bhd rfl)
theorem bk260_39 {w : am_Wd} {l0 : Nat} {l2 : Int32} {l3 : Nat} {l4 : Int32} : am_run 260 39 [some (.ref l0), none, some (.int l2), some (.ref l3), some (.int l4), none, none, none, none, none] [] w = am_run 260 54 [some (.ref l0), none, some (.int l2), some (.ref l3), some (.int l4), none, none, none, none, none] [.int (-1 : Int32)] w := by
  refine (bu (ls'' := [some (.ref l0), none, some (.int l2), some (.ref l3), some (.int l4), none, none, none, none, none]) (st' := [.int (-1 : Int32)]) bf260_39 bf260_40 rfl rfl).trans ?_
  refine (bu (ls'' := [some (.ref l0), none, some (.int l2), some (.ref l3), some (.int l4), none, none, none, none, none]) (st' := [.int (-1 : Int32)]) bf260_40 bf260_54 rfl rfl).trans ?_
  rfl
theorem bk260_54 {w : am_Wd} {l0 : Nat} {l2 : Int32} {l3 : Nat} {l4 : Int32} {s0 : Int32} : am_run 260 54 [some (.ref l0), none, some (.int l2), some (.ref l3), some (.int l4), none, none, none, none, none] [.int s0] w = (am_kf w l0 11).bind fun _ => (am_x 258 [.ref l0, .ref l3, .int l2] w).bind fun r => bct r fun v w' => am_run 260 63 [some (.ref l0), none, none, some (.ref l3), some (.int l4), some (.int s0), none, none, none, none] (v.toList ++ [.ref l0]) w' := by
  refine (bu (ls'' := [some (.ref l0), none, some (.int l2), some (.ref l3), some (.int l4), some (.int s0), none, none, none, none]) (st' := []) bf260_54 bf260_56 rfl rfl).trans ?_
  refine (bu (ls'' := [some (.ref l0), none, some (.int l2), some (.ref l3), some (.int l4), some (.int s0), none, none, none, none]) (st' := [.ref l0]) bf260_56 bf260_57 rfl rfl).trans ?_
  refine (bu (ls'' := [some (.ref l0), none, some (.int l2), some (.ref l3), some (.int l4), some (.int s0), none, none, none, none]) (st' := [.ref l0, .ref l0]) bf260_57 bf260_58 rfl rfl).trans ?_
  refine (bu (ls'' := [some (.ref l0), none, some (.int l2), some (.ref l3), some (.int l4), some (.int s0), none, none, none, none]) (st' := [.ref l3, .ref l0, .ref l0]) bf260_58 bf260_59 rfl rfl).trans ?_
  refine (bu (ls'' := [some (.ref l0), none, none, some (.ref l3), some (.int l4), some (.int s0), none, none, none, none]) (st' := [.int l2, .ref l3, .ref l0, .ref l0]) bf260_59 bf260_60 rfl rfl).trans ?_
  exact bkV bf260_60 bf260_63 rfl (by decide +kernel) (Nat.le_of_ble_eq_true rfl) rfl (bhd rfl)
theorem bk260_63 {w : am_Wd} {l0 : Nat} {l3 : Nat} {l4 : Int32} {l5 : Int32} {s0 : Int32} {s1 : Nat} : am_run 260 63 [some (.ref l0), none, none, some (.ref l3), some (.int l4), some (.int l5), none, none, none, none] [.int s0, .ref s1] w = if ¬ s0 = nI 0 then am_run 260 82 [some (.ref l0), none, none, some (.ref l3), some (.int l4), none, none, none, none, none] [.ref s1] w else am_run 260 66 [some (.ref l0), none, none, some (.ref l3), some (.int l4), some (.int l5), none, none, none, none] [.ref s1] w := by
  exact bifc bf260_63 rfl bf260_82 bf260_66 rfl rfl rfl
theorem bk260_82 {w : am_Wd} {l0 : Nat} {l3 : Nat} {l4 : Int32} {s0 : Nat} : am_run 260 82 [some (.ref l0), none, none, some (.ref l3), some (.int l4), none, none, none, none, none] [.ref s0] w = am_run 260 87 [some (.ref l0), none, none, some (.ref l3), some (.int l4), none, none, none, none, none] [.int (nI 1), .ref s0] w := by
  refine (bu (ls'' := [some (.ref l0), none, none, some (.ref l3), some (.int l4), none, none, none, none, none]) (st' := [.int (nI 1), .ref s0]) bf260_82 bf260_83 rfl rfl).trans ?_
  refine (bu (ls'' := [some (.ref l0), none, none, some (.ref l3), some (.int l4), none, none, none, none, none]) (st' := [.int (nI 1), .ref s0]) bf260_83 bf260_87 rfl rfl).trans ?_
  rfl
theorem bk260_66 {w : am_Wd} {l0 : Nat} {l3 : Nat} {l4 : Int32} {l5 : Int32} {s0 : Nat} : am_run 260 66 [some (.ref l0), none, none, some (.ref l3), some (.int l4), some (.int l5), none, none, none, none] [.ref s0] w = if l5 = (-1 : Int32) then am_run 260 86 [some (.ref l0), none, none, some (.ref l3), some (.int l4), none, none, none, none, none] [.ref s0] w else am_run 260 72 [some (.ref l0), none, none, some (.ref l3), some (.int l4), some (.int l5), none, none, none, none] [.ref s0] w := by
  refine (bu (ls'' := [some (.ref l0), none, none, some (.ref l3), some (.int l4), some (.int l5), none, none, none, none]) (st' := [.int l5, .ref s0]) bf260_66 bf260_68 rfl rfl).trans ?_
  refine (bu (ls'' := [some (.ref l0), none, none, some (.ref l3), some (.int l4), some (.int l5), none, none, none, none]) (st' := [.int (-1 : Int32), .int l5, .ref s0]) bf260_68 bf260_69 rfl rfl).trans ?_
  exact bic bf260_69 rfl bf260_86 bf260_72 rfl rfl rfl
theorem bk260_87 {w : am_Wd} {l0 : Nat} {l3 : Nat} {l4 : Int32} {s0 : Int32} {s1 : Nat} : am_run 260 87 [some (.ref l0), none, none, some (.ref l3), some (.int l4), none, none, none, none, none] [.int s0, .ref s1] w = (am_kf w s1 11).bind fun _ => (am_x 40 [.ref s1, .int s0, .int (nI 2)] w).bind fun r => bct r fun v w' => am_run 260 91 [some (.ref l0), none, none, some (.ref l3), some (.int l4), none, none, none, none, none] (v.toList ++ []) w' := by
  refine (bu (ls'' := [some (.ref l0), none, none, some (.ref l3), some (.int l4), none, none, none, none, none]) (st' := [.int (nI 2), .int s0, .ref s1]) bf260_87 bf260_88 rfl rfl).trans ?_
  exact bkV bf260_88 bf260_91 rfl (by decide +kernel) (Nat.le_of_ble_eq_true rfl) rfl (bhd rfl)
theorem bk260_86 {w : am_Wd} {l0 : Nat} {l3 : Nat} {l4 : Int32} {s0 : Nat} : am_run 260 86 [some (.ref l0), none, none, some (.ref l3), some (.int l4), none, none, none, none, none] [.ref s0] w = am_run 260 87 [some (.ref l0), none, none, some (.ref l3), some (.int l4), none, none, none, none, none] [.int (nI 0), .ref s0] w := by
  refine (bu (ls'' := [some (.ref l0), none, none, some (.ref l3), some (.int l4), none, none, none, none, none]) (st' := [.int (nI 0), .ref s0]) bf260_86 bf260_87 rfl rfl).trans ?_
  rfl
theorem bk260_72 {w : am_Wd} {l0 : Nat} {l3 : Nat} {l4 : Int32} {l5 : Int32} {s0 : Nat} : am_run 260 72 [some (.ref l0), none, none, some (.ref l3), some (.int l4), some (.int l5), none, none, none, none] [.ref s0] w = (am_gf w l0 11 10).bind fun v => am_run 260 76 [some (.ref l0), none, none, some (.ref l3), some (.int l4), some (.int l5), none, none, none, none] (v :: [.ref s0]) w := by
  refine (bu (ls'' := [some (.ref l0), none, none, some (.ref l3), some (.int l4), some (.int l5), none, none, none, none]) (st' := [.ref l0, .ref s0]) bf260_72 bf260_73 rfl rfl).trans ?_
  exact bh bf260_73 bf260_76 rfl (fun _ _ => am_ge_rf w) rfl
theorem bk260_91 {w : am_Wd} {l0 : Nat} {l3 : Nat} {l4 : Int32} {s0 : Int32} : am_run 260 91 [some (.ref l0), none, none, some (.ref l3), some (.int l4), none, none, none, none, none] [.int s0] w = if s0 = nI 0 then am_run 260 96 [some (.ref l0), none, none, some (.ref l3), some (.int l4), none, none, none, none, none] [] w else am_run 260 94 [none, none, none, none, none, none, none, none, none, none] [] w := by
  exact bifc bf260_91 rfl bf260_96 bf260_94 rfl rfl rfl
theorem bk260_76 {w : am_Wd} {l0 : Nat} {l3 : Nat} {l4 : Int32} {l5 : Int32} {s0 : Nat} {s1 : Nat} : am_run 260 76 [some (.ref l0), none, none, some (.ref l3), some (.int l4), some (.int l5), none, none, none, none] [.ref s0, .ref s1] w = (am_ri 2 w s0 l5).bind fun v => am_run 260 79 [some (.ref l0), none, none, some (.ref l3), some (.int l4), none, none, none, none, none] (.int v :: [.ref s1]) w := by
  refine (bu (ls'' := [some (.ref l0), none, none, some (.ref l3), some (.int l4), none, none, none, none, none]) (st' := [.int l5, .ref s0, .ref s1]) bf260_76 bf260_78 rfl rfl).trans ?_
  exact bh bf260_78 bf260_79 rfl (fun _ _ => am_ge_rf w) rfl
theorem bk260_96 {w : am_Wd} {l0 : Nat} {l3 : Nat} {l4 : Int32} : am_run 260 96 [some (.ref l0), none, none, some (.ref l3), some (.int l4), none, none, none, none, none] [] w = (am_kf w l3 10).bind fun _ => (am_x 38 [.ref l3] w).bind fun r => bct r fun v w' => am_run 260 100 [some (.ref l0), none, none, some (.ref l3), some (.int l4), none, none, none, none, none] (v.toList ++ []) w' := by
  refine (bu (ls'' := [some (.ref l0), none, none, some (.ref l3), some (.int l4), none, none, none, none, none]) (st' := [.ref l3]) bf260_96 bf260_97 rfl rfl).trans ?_
  exact bkV bf260_97 bf260_100 rfl (by decide +kernel) (Nat.le_of_ble_eq_true rfl) rfl (bhd rfl)
theorem bk260_94 {w : am_Wd}  : am_run 260 94 [none, none, none, none, none, none, none, none, none, none] [] w = some (.inl (some (.int (nI 0))), w) := by
  refine (bu (ls'' := [none, none, none, none, none, none, none, none, none, none]) (st' := [.int (nI 0)]) bf260_94 bf260_95 rfl rfl).trans ?_
  exact am_e2 bf260_95 rfl (am_ge_rf w)
theorem bk260_79 {w : am_Wd} {l0 : Nat} {l3 : Nat} {l4 : Int32} {s0 : Int32} {s1 : Nat} : am_run 260 79 [some (.ref l0), none, none, some (.ref l3), some (.int l4), none, none, none, none, none] [.int s0, .ref s1] w = if s0 = nI 0 then am_run 260 86 [some (.ref l0), none, none, some (.ref l3), some (.int l4), none, none, none, none, none] [.ref s1] w else am_run 260 82 [some (.ref l0), none, none, some (.ref l3), some (.int l4), none, none, none, none, none] [.ref s1] w := by
  exact bifc bf260_79 rfl bf260_86 bf260_82 rfl rfl rfl
theorem bk260_100 {w : am_Wd} {l0 : Nat} {l3 : Nat} {l4 : Int32} {s0 : Int32} : am_run 260 100 [some (.ref l0), none, none, some (.ref l3), some (.int l4), none, none, none, none, none] [.int s0] w = (am_gf w l3 10 0).bind fun v => am_run 260 106 [some (.ref l0), none, none, some (.ref l3), some (.int l4), none, some (.int s0), none, none, none] (v :: []) w := by
  refine (bu (ls'' := [some (.ref l0), none, none, some (.ref l3), some (.int l4), none, some (.int s0), none, none, none]) (st' := []) bf260_100 bf260_102 rfl rfl).trans ?_
  refine (bu (ls'' := [some (.ref l0), none, none, some (.ref l3), some (.int l4), none, some (.int s0), none, none, none]) (st' := [.ref l3]) bf260_102 bf260_103 rfl rfl).trans ?_
  exact bh bf260_103 bf260_106 rfl (fun _ _ => am_ge_rf w) rfl
theorem bk260_106 {w : am_Wd} {l0 : Nat} {l3 : Nat} {l4 : Int32} {l6 : Int32} {s0 : Int32} : am_run 260 106 [some (.ref l0), none, none, some (.ref l3), some (.int l4), none, some (.int l6), none, none, none] [.int s0] w = (am_kf w l0 11).bind fun _ => (am_x 173 [.ref l0, .int l6, .int (bj_irem s0 (nI 4))] w).bind fun r => bct r fun v w' => am_run 260 118 [some (.ref l0), none, none, some (.ref l3), some (.int l4), none, some (.int l6), some (.int (bj_irem s0 (nI 4))), none, none] (v.toList ++ []) w' := by
  refine (bu (ls'' := [some (.ref l0), none, none, some (.ref l3), some (.int l4), none, some (.int l6), none, none, none]) (st' := [.int (nI 4), .int s0]) bf260_106 bf260_107 rfl rfl).trans ?_
  refine (bu (ls'' := [some (.ref l0), none, none, some (.ref l3), some (.int l4), none, some (.int l6), none, none, none]) (st' := [.int (bj_irem s0 (nI 4))]) bf260_107 bf260_108 rfl rfl).trans ?_
  refine (bu (ls'' := [some (.ref l0), none, none, some (.ref l3), some (.int l4), none, some (.int l6), some (.int (bj_irem s0 (nI 4))), none, none]) (st' := []) bf260_108 bf260_110 rfl rfl).trans ?_
  refine (bu (ls'' := [some (.ref l0), none, none, some (.ref l3), some (.int l4), none, some (.int l6), some (.int (bj_irem s0 (nI 4))), none, none]) (st' := [.ref l0]) bf260_110 bf260_111 rfl rfl).trans ?_
  refine (bu (ls'' := [some (.ref l0), none, none, some (.ref l3), some (.int l4), none, some (.int l6), some (.int (bj_irem s0 (nI 4))), none, none]) (st' := [.int l6, .ref l0]) bf260_111 bf260_113 rfl rfl).trans ?_
  refine (bu (ls'' := [some (.ref l0), none, none, some (.ref l3), some (.int l4), none, some (.int l6), some (.int (bj_irem s0 (nI 4))), none, none]) (st' := [.int (bj_irem s0 (nI 4)), .int l6, .ref l0]) bf260_113 bf260_115 rfl rfl).trans ?_
  exact bkV bf260_115 bf260_118 rfl (by decide +kernel) (Nat.le_of_ble_eq_true rfl) rfl (bhd rfl)
theorem bk260_118 {w : am_Wd} {l0 : Nat} {l3 : Nat} {l4 : Int32} {l6 : Int32} {l7 : Int32} {s0 : Int32} : am_run 260 118 [some (.ref l0), none, none, some (.ref l3), some (.int l4), none, some (.int l6), some (.int l7), none, none] [.int s0] w = if ¬ s0 = nI 0 then am_run 260 221 [some (.ref l0), none, none, some (.ref l3), some (.int l4), none, none, none, some (.int s0), none] [] w else am_run 260 125 [some (.ref l0), none, none, some (.ref l3), some (.int l4), none, some (.int l6), some (.int l7), some (.int s0), none] [] w := by
  refine (bu (ls'' := [some (.ref l0), none, none, some (.ref l3), some (.int l4), none, some (.int l6), some (.int l7), some (.int s0), none]) (st' := []) bf260_118 bf260_120 rfl rfl).trans ?_
  refine (bu (ls'' := [some (.ref l0), none, none, some (.ref l3), some (.int l4), none, some (.int l6), some (.int l7), some (.int s0), none]) (st' := [.int s0]) bf260_120 bf260_122 rfl rfl).trans ?_
  exact bifc bf260_122 rfl bf260_221 bf260_125 rfl rfl rfl
theorem bk260_221 {w : am_Wd} {l0 : Nat} {l3 : Nat} {l4 : Int32} {l8 : Int32} : am_run 260 221 [some (.ref l0), none, none, some (.ref l3), some (.int l4), none, none, none, some (.int l8), none] [] w = (am_gf w l3 10 7).bind fun v => am_run 260 226 [some (.ref l0), none, none, some (.ref l3), some (.int l4), none, none, none, some (.int l8), none] (v :: [.ref l3]) w := by
  refine (bu (ls'' := [some (.ref l0), none, none, some (.ref l3), some (.int l4), none, none, none, some (.int l8), none]) (st' := [.ref l3]) bf260_221 bf260_222 rfl rfl).trans ?_
  refine (bu (ls'' := [some (.ref l0), none, none, some (.ref l3), some (.int l4), none, none, none, some (.int l8), none]) (st' := [.ref l3, .ref l3]) bf260_222 bf260_223 rfl rfl).trans ?_
  exact bh bf260_223 bf260_226 rfl (fun _ _ => am_ge_rf w) rfl
theorem bk260_125 {w : am_Wd} {l0 : Nat} {l3 : Nat} {l4 : Int32} {l6 : Int32} {l7 : Int32} {l8 : Int32} : am_run 260 125 [some (.ref l0), none, none, some (.ref l3), some (.int l4), none, some (.int l6), some (.int l7), some (.int l8), none] [] w = (am_gf w l0 11 9).bind fun v => am_run 260 132 [some (.ref l0), none, none, some (.ref l3), some (.int l4), none, some (.int l6), some (.int l7), some (.int l8), some (.int (nI 0))] (v :: []) w := by
  refine (bu (ls'' := [some (.ref l0), none, none, some (.ref l3), some (.int l4), none, some (.int l6), some (.int l7), some (.int l8), none]) (st' := [.int (nI 0)]) bf260_125 bf260_126 rfl rfl).trans ?_
  refine (bu (ls'' := [some (.ref l0), none, none, some (.ref l3), some (.int l4), none, some (.int l6), some (.int l7), some (.int l8), some (.int (nI 0))]) (st' := []) bf260_126 bf260_128 rfl rfl).trans ?_
  refine (bu (ls'' := [some (.ref l0), none, none, some (.ref l3), some (.int l4), none, some (.int l6), some (.int l7), some (.int l8), some (.int (nI 0))]) (st' := [.ref l0]) bf260_128 bf260_129 rfl rfl).trans ?_
  exact bh bf260_129 bf260_132 rfl (fun _ _ => am_ge_rf w) rfl
theorem bk260_226 {w : am_Wd} {l0 : Nat} {l3 : Nat} {l4 : Int32} {l8 : Int32} {s0 : Int32} {s1 : Nat} : am_run 260 226 [some (.ref l0), none, none, some (.ref l3), some (.int l4), none, none, none, some (.int l8), none] [.int s0, .ref s1] w = if l8 = nI 0 then am_run 260 235 [some (.ref l0), none, none, some (.ref l3), some (.int l4), none, none, none, some (.int l8), none] [.int s0, .ref s1] w else am_run 260 231 [some (.ref l0), none, none, some (.ref l3), some (.int l4), none, none, none, some (.int l8), none] [.int s0, .ref s1] w := by
  refine (bu (ls'' := [some (.ref l0), none, none, some (.ref l3), some (.int l4), none, none, none, some (.int l8), none]) (st' := [.int l8, .int s0, .ref s1]) bf260_226 bf260_228 rfl rfl).trans ?_
  exact bifc bf260_228 rfl bf260_235 bf260_231 rfl rfl rfl
theorem bk260_132 {w : am_Wd} {l0 : Nat} {l3 : Nat} {l4 : Int32} {l6 : Int32} {l7 : Int32} {l8 : Int32} {l9 : Int32} {s0 : Nat} : am_run 260 132 [some (.ref l0), none, none, some (.ref l3), some (.int l4), none, some (.int l6), some (.int l7), some (.int l8), some (.int l9)] [.ref s0] w = (am_ri 2 w s0 l6).bind fun v => am_run 260 135 [some (.ref l0), none, none, some (.ref l3), some (.int l4), none, some (.int l6), some (.int l7), some (.int l8), some (.int l9)] (.int v :: []) w := by
  refine (bu (ls'' := [some (.ref l0), none, none, some (.ref l3), some (.int l4), none, some (.int l6), some (.int l7), some (.int l8), some (.int l9)]) (st' := [.int l6, .ref s0]) bf260_132 bf260_134 rfl rfl).trans ?_
  exact bh bf260_134 bf260_135 rfl (fun _ _ => am_ge_rf w) rfl
theorem bk260_235 {w : am_Wd} {l0 : Nat} {l3 : Nat} {l4 : Int32} {l8 : Int32} {s0 : Int32} {s1 : Nat} : am_run 260 235 [some (.ref l0), none, none, some (.ref l3), some (.int l4), none, none, none, some (.int l8), none] [.int s0, .ref s1] w = am_run 260 236 [some (.ref l0), none, none, some (.ref l3), some (.int l4), none, none, none, some (.int l8), none] [.int (nI 0), .int s0, .ref s1] w := by
  refine (bu (ls'' := [some (.ref l0), none, none, some (.ref l3), some (.int l4), none, none, none, some (.int l8), none]) (st' := [.int (nI 0), .int s0, .ref s1]) bf260_235 bf260_236 rfl rfl).trans ?_
  rfl
theorem bk260_231 {w : am_Wd} {l0 : Nat} {l3 : Nat} {l4 : Int32} {l8 : Int32} {s0 : Int32} {s1 : Nat} : am_run 260 231 [some (.ref l0), none, none, some (.ref l3), some (.int l4), none, none, none, some (.int l8), none] [.int s0, .ref s1] w = am_run 260 236 [some (.ref l0), none, none, some (.ref l3), some (.int l4), none, none, none, some (.int l8), none] [.int (nI 1), .int s0, .ref s1] w := by
  refine (bu (ls'' := [some (.ref l0), none, none, some (.ref l3), some (.int l4), none, none, none, some (.int l8), none]) (st' := [.int (nI 1), .int s0, .ref s1]) bf260_231 bf260_232 rfl rfl).trans ?_
  refine (bu (ls'' := [some (.ref l0), none, none, some (.ref l3), some (.int l4), none, none, none, some (.int l8), none]) (st' := [.int (nI 1), .int s0, .ref s1]) bf260_232 bf260_236 rfl rfl).trans ?_
  rfl
theorem bk260_135 {w : am_Wd} {l0 : Nat} {l3 : Nat} {l4 : Int32} {l6 : Int32} {l7 : Int32} {l8 : Int32} {l9 : Int32} {s0 : Int32} : am_run 260 135 [some (.ref l0), none, none, some (.ref l3), some (.int l4), none, some (.int l6), some (.int l7), some (.int l8), some (.int l9)] [.int s0] w = if s0 = nI 0 then am_run 260 181 [some (.ref l0), none, none, some (.ref l3), some (.int l4), none, some (.int l6), some (.int l7), some (.int l8), some (.int l9)] [] w else am_run 260 138 [some (.ref l0), none, none, some (.ref l3), some (.int l4), none, some (.int l6), some (.int l7), some (.int l8), none] [] w := by
  exact bifc bf260_135 rfl bf260_181 bf260_138 rfl rfl rfl
theorem bk260_236 {w : am_Wd} {l0 : Nat} {l3 : Nat} {l4 : Int32} {l8 : Int32} {s0 : Int32} {s1 : Int32} {s2 : Nat} : am_run 260 236 [some (.ref l0), none, none, some (.ref l3), some (.int l4), none, none, none, some (.int l8), none] [.int s0, .int s1, .ref s2] w = (am_pf w s2 10 7 (.int (s1 + s0))).bind fun w' => am_run 260 240 [some (.ref l0), none, none, some (.ref l3), some (.int l4), none, none, none, some (.int l8), none] [] w' := by
  refine (bu (ls'' := [some (.ref l0), none, none, some (.ref l3), some (.int l4), none, none, none, some (.int l8), none]) (st' := [.int (s1 + s0), .ref s2]) bf260_236 bf260_237 rfl rfl).trans ?_
  exact bh bf260_237 bf260_240 rfl (bge_pf) rfl
theorem bk260_181 {w : am_Wd} {l0 : Nat} {l3 : Nat} {l4 : Int32} {l6 : Int32} {l7 : Int32} {l8 : Int32} {l9 : Int32} : am_run 260 181 [some (.ref l0), none, none, some (.ref l3), some (.int l4), none, some (.int l6), some (.int l7), some (.int l8), some (.int l9)] [] w = (am_gf w l3 10 8).bind fun v => am_run 260 186 [some (.ref l0), none, none, some (.ref l3), some (.int l4), none, some (.int l6), some (.int l7), some (.int l8), some (.int l9)] (v :: [.ref l3]) w := by
  refine (bu (ls'' := [some (.ref l0), none, none, some (.ref l3), some (.int l4), none, some (.int l6), some (.int l7), some (.int l8), some (.int l9)]) (st' := [.ref l3]) bf260_181 bf260_182 rfl rfl).trans ?_
  refine (bu (ls'' := [some (.ref l0), none, none, some (.ref l3), some (.int l4), none, some (.int l6), some (.int l7), some (.int l8), some (.int l9)]) (st' := [.ref l3, .ref l3]) bf260_182 bf260_183 rfl rfl).trans ?_
  exact bh bf260_183 bf260_186 rfl (fun _ _ => am_ge_rf w) rfl
theorem bk260_138 {w : am_Wd} {l0 : Nat} {l3 : Nat} {l4 : Int32} {l6 : Int32} {l7 : Int32} {l8 : Int32} : am_run 260 138 [some (.ref l0), none, none, some (.ref l3), some (.int l4), none, some (.int l6), some (.int l7), some (.int l8), none] [] w = (am_gf w l0 11 2).bind fun v => am_run 260 142 [some (.ref l0), none, none, some (.ref l3), some (.int l4), none, some (.int l6), some (.int l7), some (.int l8), none] (v :: []) w := by
  refine (bu (ls'' := [some (.ref l0), none, none, some (.ref l3), some (.int l4), none, some (.int l6), some (.int l7), some (.int l8), none]) (st' := [.ref l0]) bf260_138 bf260_139 rfl rfl).trans ?_
  exact bh bf260_139 bf260_142 rfl (fun _ _ => am_ge_rf w) rfl
theorem bk260_240 {w : am_Wd} {l0 : Nat} {l3 : Nat} {l4 : Int32} {l8 : Int32} : am_run 260 240 [some (.ref l0), none, none, some (.ref l3), some (.int l4), none, none, none, some (.int l8), none] [] w = if l4 = (-1 : Int32) then am_run 260 260 [some (.ref l0), none, none, some (.ref l3), none, none, none, none, some (.int l8), none] [] w else am_run 260 246 [some (.ref l0), none, none, some (.ref l3), some (.int l4), none, none, none, some (.int l8), none] [] w := by
  refine (bu (ls'' := [some (.ref l0), none, none, some (.ref l3), some (.int l4), none, none, none, some (.int l8), none]) (st' := [.int l4]) bf260_240 bf260_242 rfl rfl).trans ?_
  refine (bu (ls'' := [some (.ref l0), none, none, some (.ref l3), some (.int l4), none, none, none, some (.int l8), none]) (st' := [.int (-1 : Int32), .int l4]) bf260_242 bf260_243 rfl rfl).trans ?_
  exact bic bf260_243 rfl bf260_260 bf260_246 rfl rfl rfl
theorem bk260_186 {w : am_Wd} {l0 : Nat} {l3 : Nat} {l4 : Int32} {l6 : Int32} {l7 : Int32} {l8 : Int32} {l9 : Int32} {s0 : Int32} {s1 : Nat} : am_run 260 186 [some (.ref l0), none, none, some (.ref l3), some (.int l4), none, some (.int l6), some (.int l7), some (.int l8), some (.int l9)] [.int s0, .ref s1] w = if l9 = nI 0 then am_run 260 195 [some (.ref l0), none, none, some (.ref l3), some (.int l4), none, some (.int l6), some (.int l7), some (.int l8), some (.int l9)] [.int s0, .ref s1] w else am_run 260 191 [some (.ref l0), none, none, some (.ref l3), some (.int l4), none, some (.int l6), some (.int l7), some (.int l8), some (.int l9)] [.int s0, .ref s1] w := by
  refine (bu (ls'' := [some (.ref l0), none, none, some (.ref l3), some (.int l4), none, some (.int l6), some (.int l7), some (.int l8), some (.int l9)]) (st' := [.int l9, .int s0, .ref s1]) bf260_186 bf260_188 rfl rfl).trans ?_
  exact bifc bf260_188 rfl bf260_195 bf260_191 rfl rfl rfl
theorem bk260_142 {w : am_Wd} {l0 : Nat} {l3 : Nat} {l4 : Int32} {l6 : Int32} {l7 : Int32} {l8 : Int32} {s0 : Int32} : am_run 260 142 [some (.ref l0), none, none, some (.ref l3), some (.int l4), none, some (.int l6), some (.int l7), some (.int l8), none] [.int s0] w = if ¬ (bj_irem s0 (nI 3)) = nI 0 then am_run 260 151 [some (.ref l0), none, none, some (.ref l3), some (.int l4), none, some (.int l6), some (.int l7), some (.int l8), none] [] w else am_run 260 147 [some (.ref l0), none, none, some (.ref l3), some (.int l4), none, some (.int l6), some (.int l7), some (.int l8), none] [] w := by
  refine (bu (ls'' := [some (.ref l0), none, none, some (.ref l3), some (.int l4), none, some (.int l6), some (.int l7), some (.int l8), none]) (st' := [.int (nI 3), .int s0]) bf260_142 bf260_143 rfl rfl).trans ?_
  refine (bu (ls'' := [some (.ref l0), none, none, some (.ref l3), some (.int l4), none, some (.int l6), some (.int l7), some (.int l8), none]) (st' := [.int (bj_irem s0 (nI 3))]) bf260_143 bf260_144 rfl rfl).trans ?_
  exact bifc bf260_144 rfl bf260_151 bf260_147 rfl rfl rfl
theorem bk260_260 {w : am_Wd} {l0 : Nat} {l3 : Nat} {l8 : Int32} : am_run 260 260 [some (.ref l0), none, none, some (.ref l3), none, none, none, none, some (.int l8), none] [] w = (am_x 209 [.ref l3, .int l8] w).bind fun r => bct r fun v w' => am_run 260 267 [some (.ref l0), none, none, some (.ref l3), none, none, none, none, some (.int l8), none] (v.toList ++ [.ref l3]) w' := by
  refine (bu (ls'' := [some (.ref l0), none, none, some (.ref l3), none, none, none, none, some (.int l8), none]) (st' := [.ref l3]) bf260_260 bf260_261 rfl rfl).trans ?_
  refine (bu (ls'' := [some (.ref l0), none, none, some (.ref l3), none, none, none, none, some (.int l8), none]) (st' := [.ref l3, .ref l3]) bf260_261 bf260_262 rfl rfl).trans ?_
  refine (bu (ls'' := [some (.ref l0), none, none, some (.ref l3), none, none, none, none, some (.int l8), none]) (st' := [.int l8, .ref l3, .ref l3]) bf260_262 bf260_264 rfl rfl).trans ?_
  exact bkS bf260_264 bf260_267 rfl (by decide +kernel) (Nat.le_of_ble_eq_true rfl) rfl (bhd rfl)
theorem bk260_246 {w : am_Wd} {l0 : Nat} {l3 : Nat} {l4 : Int32} {l8 : Int32} : am_run 260 246 [some (.ref l0), none, none, some (.ref l3), some (.int l4), none, none, none, some (.int l8), none] [] w = (am_x 175 [.ref l3, .int (l4 / (nI 4)), .int (bj_irem l4 (nI 4)), .int l8] w).bind fun r => bct r fun v w' => am_run 260 260 [some (.ref l0), none, none, some (.ref l3), none, none, none, none, some (.int l8), none] (v.toList ++ []) w' := by
  refine (bu (ls'' := [some (.ref l0), none, none, some (.ref l3), some (.int l4), none, none, none, some (.int l8), none]) (st' := [.ref l3]) bf260_246 bf260_247 rfl rfl).trans ?_
  refine (bu (ls'' := [some (.ref l0), none, none, some (.ref l3), some (.int l4), none, none, none, some (.int l8), none]) (st' := [.int l4, .ref l3]) bf260_247 bf260_249 rfl rfl).trans ?_
  refine (bu (ls'' := [some (.ref l0), none, none, some (.ref l3), some (.int l4), none, none, none, some (.int l8), none]) (st' := [.int (nI 4), .int l4, .ref l3]) bf260_249 bf260_250 rfl rfl).trans ?_
  refine (bu (ls'' := [some (.ref l0), none, none, some (.ref l3), some (.int l4), none, none, none, some (.int l8), none]) (st' := [.int (l4 / (nI 4)), .ref l3]) bf260_250 bf260_251 rfl rfl).trans ?_
  refine (bu (ls'' := [some (.ref l0), none, none, some (.ref l3), none, none, none, none, some (.int l8), none]) (st' := [.int l4, .int (l4 / (nI 4)), .ref l3]) bf260_251 bf260_253 rfl rfl).trans ?_
  refine (bu (ls'' := [some (.ref l0), none, none, some (.ref l3), none, none, none, none, some (.int l8), none]) (st' := [.int (nI 4), .int l4, .int (l4 / (nI 4)), .ref l3]) bf260_253 bf260_254 rfl rfl).trans ?_
  refine (bu (ls'' := [some (.ref l0), none, none, some (.ref l3), none, none, none, none, some (.int l8), none]) (st' := [.int (bj_irem l4 (nI 4)), .int (l4 / (nI 4)), .ref l3]) bf260_254 bf260_255 rfl rfl).trans ?_
  refine (bu (ls'' := [some (.ref l0), none, none, some (.ref l3), none, none, none, none, some (.int l8), none]) (st' := [.int l8, .int (bj_irem l4 (nI 4)), .int (l4 / (nI 4)), .ref l3]) bf260_255 bf260_257 rfl rfl).trans ?_
  exact bkS bf260_257 bf260_260 rfl (by decide +kernel) (Nat.le_of_ble_eq_true rfl) rfl (bhd rfl)
theorem bk260_195 {w : am_Wd} {l0 : Nat} {l3 : Nat} {l4 : Int32} {l6 : Int32} {l7 : Int32} {l8 : Int32} {l9 : Int32} {s0 : Int32} {s1 : Nat} : am_run 260 195 [some (.ref l0), none, none, some (.ref l3), some (.int l4), none, some (.int l6), some (.int l7), some (.int l8), some (.int l9)] [.int s0, .ref s1] w = am_run 260 196 [some (.ref l0), none, none, some (.ref l3), some (.int l4), none, some (.int l6), some (.int l7), some (.int l8), some (.int l9)] [.int (nI 0), .int s0, .ref s1] w := by
  refine (bu (ls'' := [some (.ref l0), none, none, some (.ref l3), some (.int l4), none, some (.int l6), some (.int l7), some (.int l8), some (.int l9)]) (st' := [.int (nI 0), .int s0, .ref s1]) bf260_195 bf260_196 rfl rfl).trans ?_
  rfl
theorem bk260_191 {w : am_Wd} {l0 : Nat} {l3 : Nat} {l4 : Int32} {l6 : Int32} {l7 : Int32} {l8 : Int32} {l9 : Int32} {s0 : Int32} {s1 : Nat} : am_run 260 191 [some (.ref l0), none, none, some (.ref l3), some (.int l4), none, some (.int l6), some (.int l7), some (.int l8), some (.int l9)] [.int s0, .ref s1] w = am_run 260 196 [some (.ref l0), none, none, some (.ref l3), some (.int l4), none, some (.int l6), some (.int l7), some (.int l8), some (.int l9)] [.int (nI 1), .int s0, .ref s1] w := by
  refine (bu (ls'' := [some (.ref l0), none, none, some (.ref l3), some (.int l4), none, some (.int l6), some (.int l7), some (.int l8), some (.int l9)]) (st' := [.int (nI 1), .int s0, .ref s1]) bf260_191 bf260_192 rfl rfl).trans ?_
  refine (bu (ls'' := [some (.ref l0), none, none, some (.ref l3), some (.int l4), none, some (.int l6), some (.int l7), some (.int l8), some (.int l9)]) (st' := [.int (nI 1), .int s0, .ref s1]) bf260_192 bf260_196 rfl rfl).trans ?_
  rfl
theorem bk260_151 {w : am_Wd} {l0 : Nat} {l3 : Nat} {l4 : Int32} {l6 : Int32} {l7 : Int32} {l8 : Int32} : am_run 260 151 [some (.ref l0), none, none, some (.ref l3), some (.int l4), none, some (.int l6), some (.int l7), some (.int l8), none] [] w = am_run 260 152 [some (.ref l0), none, none, some (.ref l3), some (.int l4), none, some (.int l6), some (.int l7), some (.int l8), none] [.int (nI 0)] w := by
  refine (bu (ls'' := [some (.ref l0), none, none, some (.ref l3), some (.int l4), none, some (.int l6), some (.int l7), some (.int l8), none]) (st' := [.int (nI 0)]) bf260_151 bf260_152 rfl rfl).trans ?_
  rfl
theorem bk260_147 {w : am_Wd} {l0 : Nat} {l3 : Nat} {l4 : Int32} {l6 : Int32} {l7 : Int32} {l8 : Int32} : am_run 260 147 [some (.ref l0), none, none, some (.ref l3), some (.int l4), none, some (.int l6), some (.int l7), some (.int l8), none] [] w = am_run 260 152 [some (.ref l0), none, none, some (.ref l3), some (.int l4), none, some (.int l6), some (.int l7), some (.int l8), none] [.int (nI 1)] w := by
  refine (bu (ls'' := [some (.ref l0), none, none, some (.ref l3), some (.int l4), none, some (.int l6), some (.int l7), some (.int l8), none]) (st' := [.int (nI 1)]) bf260_147 bf260_148 rfl rfl).trans ?_
  refine (bu (ls'' := [some (.ref l0), none, none, some (.ref l3), some (.int l4), none, some (.int l6), some (.int l7), some (.int l8), none]) (st' := [.int (nI 1)]) bf260_148 bf260_152 rfl rfl).trans ?_
  rfl
theorem bk260_267 {w : am_Wd} {l0 : Nat} {l3 : Nat} {l8 : Int32} {s0 : Nat} {s1 : Nat} : am_run 260 267 [some (.ref l0), none, none, some (.ref l3), none, none, none, none, some (.int l8), none] [.ref s0, .ref s1] w = (am_x 102 [.ref s1, .ref s0] w).bind fun r => bct r fun v w' => am_run 260 270 [some (.ref l0), none, none, some (.ref l3), none, none, none, none, some (.int l8), none] (v.toList ++ []) w' := by
  exact bkS bf260_267 bf260_270 rfl (by decide +kernel) (Nat.le_of_ble_eq_true rfl) rfl (bhd rfl)
theorem bk260_196 {w : am_Wd} {l0 : Nat} {l3 : Nat} {l4 : Int32} {l6 : Int32} {l7 : Int32} {l8 : Int32} {l9 : Int32} {s0 : Int32} {s1 : Int32} {s2 : Nat} : am_run 260 196 [some (.ref l0), none, none, some (.ref l3), some (.int l4), none, some (.int l6), some (.int l7), some (.int l8), some (.int l9)] [.int s0, .int s1, .ref s2] w = (am_pf w s2 10 8 (.int (s1 + s0))).bind fun w' => am_run 260 200 [some (.ref l0), none, none, some (.ref l3), some (.int l4), none, some (.int l6), some (.int l7), some (.int l8), some (.int l9)] [] w' := by
  refine (bu (ls'' := [some (.ref l0), none, none, some (.ref l3), some (.int l4), none, some (.int l6), some (.int l7), some (.int l8), some (.int l9)]) (st' := [.int (s1 + s0), .ref s2]) bf260_196 bf260_197 rfl rfl).trans ?_
  exact bh bf260_197 bf260_200 rfl (bge_pf) rfl
theorem bk260_152 {w : am_Wd} {l0 : Nat} {l3 : Nat} {l4 : Int32} {l6 : Int32} {l7 : Int32} {l8 : Int32} {s0 : Int32} : am_run 260 152 [some (.ref l0), none, none, some (.ref l3), some (.int l4), none, some (.int l6), some (.int l7), some (.int l8), none] [.int s0] w = (am_gf w l0 11 2).bind fun v => am_run 260 161 [some (.ref l0), none, none, some (.ref l3), some (.int l4), none, some (.int l6), some (.int l7), some (.int l8), some (.int s0)] (v :: [.int (nI 29), .ref l0]) w := by
  refine (bu (ls'' := [some (.ref l0), none, none, some (.ref l3), some (.int l4), none, some (.int l6), some (.int l7), some (.int l8), some (.int s0)]) (st' := []) bf260_152 bf260_154 rfl rfl).trans ?_
  refine (bu (ls'' := [some (.ref l0), none, none, some (.ref l3), some (.int l4), none, some (.int l6), some (.int l7), some (.int l8), some (.int s0)]) (st' := [.ref l0]) bf260_154 bf260_155 rfl rfl).trans ?_
  refine (bu (ls'' := [some (.ref l0), none, none, some (.ref l3), some (.int l4), none, some (.int l6), some (.int l7), some (.int l8), some (.int s0)]) (st' := [.int (nI 29), .ref l0]) bf260_155 bf260_157 rfl rfl).trans ?_
  refine (bu (ls'' := [some (.ref l0), none, none, some (.ref l3), some (.int l4), none, some (.int l6), some (.int l7), some (.int l8), some (.int s0)]) (st' := [.ref l0, .int (nI 29), .ref l0]) bf260_157 bf260_158 rfl rfl).trans ?_
  exact bh bf260_158 bf260_161 rfl (fun _ _ => am_ge_rf w) rfl
theorem bk260_270 {w : am_Wd} {l0 : Nat} {l3 : Nat} {l8 : Int32} : am_run 260 270 [some (.ref l0), none, none, some (.ref l3), none, none, none, none, some (.int l8), none] [] w = (am_kf w l0 11).bind fun _ => (am_x 46 [.ref l0, .ref l3] w).bind fun r => bct r fun v w' => am_run 260 275 [none, none, none, none, none, none, none, none, some (.int l8), none] (v.toList ++ []) w' := by
  refine (bu (ls'' := [none, none, none, some (.ref l3), none, none, none, none, some (.int l8), none]) (st' := [.ref l0]) bf260_270 bf260_271 rfl rfl).trans ?_
  refine (bu (ls'' := [none, none, none, none, none, none, none, none, some (.int l8), none]) (st' := [.ref l3, .ref l0]) bf260_271 bf260_272 rfl rfl).trans ?_
  exact bkV bf260_272 bf260_275 rfl (by decide +kernel) (Nat.le_of_ble_eq_true rfl) rfl (bhd rfl)
theorem bk260_200 {w : am_Wd} {l0 : Nat} {l3 : Nat} {l4 : Int32} {l6 : Int32} {l7 : Int32} {l8 : Int32} {l9 : Int32} : am_run 260 200 [some (.ref l0), none, none, some (.ref l3), some (.int l4), none, some (.int l6), some (.int l7), some (.int l8), some (.int l9)] [] w = if ¬ l9 = nI 0 then am_run 260 221 [some (.ref l0), none, none, some (.ref l3), some (.int l4), none, none, none, some (.int l8), none] [] w else am_run 260 205 [some (.ref l0), none, none, some (.ref l3), some (.int l4), none, some (.int l6), some (.int l7), some (.int l8), none] [] w := by
  refine (bu (ls'' := [some (.ref l0), none, none, some (.ref l3), some (.int l4), none, some (.int l6), some (.int l7), some (.int l8), none]) (st' := [.int l9]) bf260_200 bf260_202 rfl rfl).trans ?_
  exact bifc bf260_202 rfl bf260_221 bf260_205 rfl rfl rfl
theorem bk260_161 {w : am_Wd} {l0 : Nat} {l3 : Nat} {l4 : Int32} {l6 : Int32} {l7 : Int32} {l8 : Int32} {l9 : Int32} {s0 : Int32} {s1 : Int32} {s2 : Nat} : am_run 260 161 [some (.ref l0), none, none, some (.ref l3), some (.int l4), none, some (.int l6), some (.int l7), some (.int l8), some (.int l9)] [.int s0, .int s1, .ref s2] w = (am_pf w s2 11 2 (.int (bj_irem ((s1 * s0) + (nI 13)) (nI 127)))).bind fun w' => am_run 260 171 [some (.ref l0), none, none, some (.ref l3), some (.int l4), none, some (.int l6), some (.int l7), some (.int l8), some (.int l9)] [] w' := by
  refine (bu (ls'' := [some (.ref l0), none, none, some (.ref l3), some (.int l4), none, some (.int l6), some (.int l7), some (.int l8), some (.int l9)]) (st' := [.int (s1 * s0), .ref s2]) bf260_161 bf260_162 rfl rfl).trans ?_
  refine (bu (ls'' := [some (.ref l0), none, none, some (.ref l3), some (.int l4), none, some (.int l6), some (.int l7), some (.int l8), some (.int l9)]) (st' := [.int (nI 13), .int (s1 * s0), .ref s2]) bf260_162 bf260_164 rfl rfl).trans ?_
  refine (bu (ls'' := [some (.ref l0), none, none, some (.ref l3), some (.int l4), none, some (.int l6), some (.int l7), some (.int l8), some (.int l9)]) (st' := [.int ((s1 * s0) + (nI 13)), .ref s2]) bf260_164 bf260_165 rfl rfl).trans ?_
  refine (bu (ls'' := [some (.ref l0), none, none, some (.ref l3), some (.int l4), none, some (.int l6), some (.int l7), some (.int l8), some (.int l9)]) (st' := [.int (nI 127), .int ((s1 * s0) + (nI 13)), .ref s2]) bf260_165 bf260_167 rfl rfl).trans ?_
  refine (bu (ls'' := [some (.ref l0), none, none, some (.ref l3), some (.int l4), none, some (.int l6), some (.int l7), some (.int l8), some (.int l9)]) (st' := [.int (bj_irem ((s1 * s0) + (nI 13)) (nI 127)), .ref s2]) bf260_167 bf260_168 rfl rfl).trans ?_
  exact bh bf260_168 bf260_171 rfl (bge_pf) rfl
theorem bk260_275 {w : am_Wd} {l8 : Int32} (hb : am_ok (am_rt 1) (.int l8) = true) : am_run 260 275 [none, none, none, none, none, none, none, none, some (.int l8), none] [] w = some (.inl (some (.int l8)), w) := by
  refine (bu (ls'' := [none, none, none, none, none, none, none, none, none, none]) (st' := [.int l8]) bf260_275 bf260_277 rfl rfl).trans ?_
  exact am_e2 bf260_277 (by unfold am_stp; exact if_pos ⟨by decide, hb⟩) (am_ge_rf w)
theorem bk260_205 {w : am_Wd} {l0 : Nat} {l3 : Nat} {l4 : Int32} {l6 : Int32} {l7 : Int32} {l8 : Int32} : am_run 260 205 [some (.ref l0), none, none, some (.ref l3), some (.int l4), none, some (.int l6), some (.int l7), some (.int l8), none] [] w = (am_x 100 [.int l6, .int l7] w).bind fun r => bct r fun v w' => am_run 260 214 [some (.ref l0), none, none, some (.ref l3), some (.int l4), none, none, some (.int l7), some (.int l8), none] (v.toList ++ [.int (nI 4), .ref l3]) w' := by
  refine (bu (ls'' := [some (.ref l0), none, none, some (.ref l3), some (.int l4), none, some (.int l6), some (.int l7), some (.int l8), none]) (st' := [.ref l3]) bf260_205 bf260_206 rfl rfl).trans ?_
  refine (bu (ls'' := [some (.ref l0), none, none, some (.ref l3), some (.int l4), none, some (.int l6), some (.int l7), some (.int l8), none]) (st' := [.int (nI 4), .ref l3]) bf260_206 bf260_207 rfl rfl).trans ?_
  refine (bu (ls'' := [some (.ref l0), none, none, some (.ref l3), some (.int l4), none, none, some (.int l7), some (.int l8), none]) (st' := [.int l6, .int (nI 4), .ref l3]) bf260_207 bf260_209 rfl rfl).trans ?_
  refine (bu (ls'' := [some (.ref l0), none, none, some (.ref l3), some (.int l4), none, none, some (.int l7), some (.int l8), none]) (st' := [.int l7, .int l6, .int (nI 4), .ref l3]) bf260_209 bf260_211 rfl rfl).trans ?_
  exact bkS bf260_211 bf260_214 rfl (by decide +kernel) (Nat.le_of_ble_eq_true rfl) rfl (bhd rfl)
theorem bk260_171 {w : am_Wd} {l0 : Nat} {l3 : Nat} {l4 : Int32} {l6 : Int32} {l7 : Int32} {l8 : Int32} {l9 : Int32} : am_run 260 171 [some (.ref l0), none, none, some (.ref l3), some (.int l4), none, some (.int l6), some (.int l7), some (.int l8), some (.int l9)] [] w = (am_gf w l0 11 3).bind fun v => am_run 260 176 [some (.ref l0), none, none, some (.ref l3), some (.int l4), none, some (.int l6), some (.int l7), some (.int l8), some (.int l9)] (v :: [.ref l0]) w := by
  refine (bu (ls'' := [some (.ref l0), none, none, some (.ref l3), some (.int l4), none, some (.int l6), some (.int l7), some (.int l8), some (.int l9)]) (st' := [.ref l0]) bf260_171 bf260_172 rfl rfl).trans ?_
  refine (bu (ls'' := [some (.ref l0), none, none, some (.ref l3), some (.int l4), none, some (.int l6), some (.int l7), some (.int l8), some (.int l9)]) (st' := [.ref l0, .ref l0]) bf260_172 bf260_173 rfl rfl).trans ?_
  exact bh bf260_173 bf260_176 rfl (fun _ _ => am_ge_rf w) rfl
theorem bk260_214 {w : am_Wd} {l0 : Nat} {l3 : Nat} {l4 : Int32} {l7 : Int32} {l8 : Int32} {s0 : Int32} {s1 : Int32} {s2 : Nat} : am_run 260 214 [some (.ref l0), none, none, some (.ref l3), some (.int l4), none, none, some (.int l7), some (.int l8), none] [.int s0, .int s1, .ref s2] w = (am_pf w s2 10 0 (.int ((s1 * s0) + l7))).bind fun w' => am_run 260 221 [some (.ref l0), none, none, some (.ref l3), some (.int l4), none, none, none, some (.int l8), none] [] w' := by
  refine (bu (ls'' := [some (.ref l0), none, none, some (.ref l3), some (.int l4), none, none, some (.int l7), some (.int l8), none]) (st' := [.int (s1 * s0), .ref s2]) bf260_214 bf260_215 rfl rfl).trans ?_
  refine (bu (ls'' := [some (.ref l0), none, none, some (.ref l3), some (.int l4), none, none, none, some (.int l8), none]) (st' := [.int l7, .int (s1 * s0), .ref s2]) bf260_215 bf260_217 rfl rfl).trans ?_
  refine (bu (ls'' := [some (.ref l0), none, none, some (.ref l3), some (.int l4), none, none, none, some (.int l8), none]) (st' := [.int ((s1 * s0) + l7), .ref s2]) bf260_217 bf260_218 rfl rfl).trans ?_
  exact bh bf260_218 bf260_221 rfl (bge_pf) rfl
theorem bk260_176 {w : am_Wd} {l0 : Nat} {l3 : Nat} {l4 : Int32} {l6 : Int32} {l7 : Int32} {l8 : Int32} {l9 : Int32} {s0 : Int32} {s1 : Nat} : am_run 260 176 [some (.ref l0), none, none, some (.ref l3), some (.int l4), none, some (.int l6), some (.int l7), some (.int l8), some (.int l9)] [.int s0, .ref s1] w = (am_pf w s1 11 3 (.int (s0 + (nI 1)))).bind fun w' => am_run 260 181 [some (.ref l0), none, none, some (.ref l3), some (.int l4), none, some (.int l6), some (.int l7), some (.int l8), some (.int l9)] [] w' := by
  refine (bu (ls'' := [some (.ref l0), none, none, some (.ref l3), some (.int l4), none, some (.int l6), some (.int l7), some (.int l8), some (.int l9)]) (st' := [.int (nI 1), .int s0, .ref s1]) bf260_176 bf260_177 rfl rfl).trans ?_
  refine (bu (ls'' := [some (.ref l0), none, none, some (.ref l3), some (.int l4), none, some (.int l6), some (.int l7), some (.int l8), some (.int l9)]) (st' := [.int (s0 + (nI 1)), .ref s1]) bf260_177 bf260_178 rfl rfl).trans ?_
  exact bh bf260_178 bf260_181 rfl (bge_pf) rfl
theorem bf261_0 : am_fetch (am_mth 261) 0 = some (.aload_n 0, 1, [], [4, 5, 6, 7]) := by decide +kernel
theorem bf261_1 : am_fetch (am_mth 261) 1 = some (.aload_n 0, 1, [], [4, 5, 6, 7]) := by decide +kernel
theorem bf261_2 : am_fetch (am_mth 261) 2 = some (.iload_n 1, 1, [], [4, 5, 6, 7]) := by decide +kernel
theorem bf261_3 : am_fetch (am_mth 261) 3 = some (.invokevirtual 149, 3, [0, 99, 1, 11, 1387, 1389, 24, 48], [4, 5, 6, 7]) := by decide +kernel
theorem bf261_6 : am_fetch (am_mth 261) 6 = some (.iconst 1, 1, [], [4, 5, 6, 7]) := by decide +kernel
theorem bf261_7 : am_fetch (am_mth 261) 7 = some (.invokevirtual 83, 3, [0, 96, 2, 11, 1251, 1253, 18, 48], [4, 5, 6, 7]) := by decide +kernel
theorem bf261_10 : am_fetch (am_mth 261) 10 = some (.ifCond .ne 27, 3, [], [4, 5, 6, 7]) := by decide +kernel
theorem bf261_13 : am_fetch (am_mth 261) 13 = some (.aload_n 0, 1, [], [4, 5, 6, 7]) := by decide +kernel
theorem bf261_14 : am_fetch (am_mth 261) 14 = some (.aload_n 0, 1, [], [4, 5, 6, 7]) := by decide +kernel
theorem bf261_15 : am_fetch (am_mth 261) 15 = some (.aload_n 0, 1, [], [4, 5, 6, 7]) := by decide +kernel
theorem bf261_16 : am_fetch (am_mth 261) 16 = some (.getfield 31, 3, [0, 11, 11, 1208], [4, 5, 6, 7]) := by decide +kernel
theorem bf261_19 : am_fetch (am_mth 261) 19 = some (.iload_n 1, 1, [], [4, 5, 6, 7]) := by decide +kernel
theorem bf261_20 : am_fetch (am_mth 261) 20 = some (.invokevirtual 152, 3, [0, 150, 1, 3, 1391, 1392, 1393, 51], [4, 5, 6, 7]) := by decide +kernel
theorem bf261_23 : am_fetch (am_mth 261) 23 = some (.checkcast 72, 3, [0, 10, 1295], [4, 5, 6, 7]) := by decide +kernel
theorem bf261_26 : am_fetch (am_mth 261) 26 = some (.iload_n 3, 1, [], [4, 5, 6, 7]) := by decide +kernel
theorem bf261_27 : am_fetch (am_mth 261) 27 = some (.invokevirtual 156, 3, [0, 258, 2, 11, 1411, 1413, 25, 48], [3, 4, 5, 6, 7]) := by decide +kernel
theorem bf261_30 : am_fetch (am_mth 261) 30 = some (.iconst 2, 1, [], [3, 4, 5, 6, 7]) := by decide +kernel
theorem bf261_31 : am_fetch (am_mth 261) 31 = some (.invokevirtual 38, 3, [0, 40, 2, 11, 1255, 1257, 19, 48], [3, 4, 5, 6, 7]) := by decide +kernel
theorem bf261_34 : am_fetch (am_mth 261) 34 = some (.ifCond .eq 5, 3, [], [3, 4, 5, 6, 7]) := by decide +kernel
theorem bf261_37 : am_fetch (am_mth 261) 37 = some (.iconst 0, 1, [], [0, 1, 2, 3, 4, 5, 6, 7]) := by decide +kernel
theorem bf261_38 : am_fetch (am_mth 261) 38 = some (.ireturn, 1, [0], [0, 1, 2, 3, 4, 5, 6, 7]) := by decide +kernel
theorem bf261_39 : am_fetch (am_mth 261) 39 = some (.aload_n 0, 1, [], [3, 4, 5, 6, 7]) := by decide +kernel
theorem bf261_40 : am_fetch (am_mth 261) 40 = some (.getfield 31, 3, [0, 11, 11, 1208], [3, 4, 5, 6, 7]) := by decide +kernel
theorem bf261_43 : am_fetch (am_mth 261) 43 = some (.iload_n 1, 1, [], [3, 4, 5, 6, 7]) := by decide +kernel
theorem bf261_44 : am_fetch (am_mth 261) 44 = some (.invokevirtual 152, 3, [0, 150, 1, 3, 1391, 1392, 1393, 51], [1, 3, 4, 5, 6, 7]) := by decide +kernel
theorem bf261_47 : am_fetch (am_mth 261) 47 = some (.checkcast 72, 3, [0, 10, 1295], [1, 3, 4, 5, 6, 7]) := by decide +kernel
theorem bf261_50 : am_fetch (am_mth 261) 50 = some (.astore 4, 2, [], [1, 3, 4, 5, 6, 7]) := by decide +kernel
theorem bf261_52 : am_fetch (am_mth 261) 52 = some (.iload_n 2, 1, [], [1, 3, 5, 6, 7]) := by decide +kernel
theorem bf261_53 : am_fetch (am_mth 261) 53 = some (.ifCond .eq 7, 3, [], [1, 2, 3, 5, 6, 7]) := by decide +kernel
theorem bf261_56 : am_fetch (am_mth 261) 56 = some (.iconst 1, 1, [], [1, 2, 3, 5, 6, 7]) := by decide +kernel
theorem bf261_57 : am_fetch (am_mth 261) 57 = some (.goto 4, 3, [], [1, 2, 3, 5, 6, 7]) := by decide +kernel
theorem bf261_60 : am_fetch (am_mth 261) 60 = some (.iconst 3, 1, [], [1, 2, 3, 5, 6, 7]) := by decide +kernel
theorem bf261_61 : am_fetch (am_mth 261) 61 = some (.istore 5, 2, [], [1, 2, 3, 5, 6, 7]) := by decide +kernel
theorem bf261_63 : am_fetch (am_mth 261) 63 = some (.aload 4, 2, [], [1, 2, 3, 6, 7]) := by decide +kernel
theorem bf261_65 : am_fetch (am_mth 261) 65 = some (.aload 4, 2, [], [1, 2, 3, 6, 7]) := by decide +kernel
theorem bf261_67 : am_fetch (am_mth 261) 67 = some (.getfield 101, 3, [0, 10, 0, 1303], [1, 2, 3, 6, 7]) := by decide +kernel
theorem bf261_70 : am_fetch (am_mth 261) 70 = some (.iload 5, 2, [], [1, 2, 3, 6, 7]) := by decide +kernel
theorem bf261_72 : am_fetch (am_mth 261) 72 = some (.invokestatic 190, 3, [0, 43, 2, 1468, 1469, 48], [1, 2, 3, 6, 7]) := by decide +kernel
theorem bf261_75 : am_fetch (am_mth 261) 75 = some (.putfield 101, 3, [0, 10, 0, 1303], [1, 2, 3, 6, 7]) := by decide +kernel
theorem bf261_78 : am_fetch (am_mth 261) 78 = some (.sipush 144, 3, [], [1, 2, 3, 6, 7]) := by decide +kernel
theorem bf261_81 : am_fetch (am_mth 261) 81 = some (.newarray .boolean, 2, [2, 1196], [1, 2, 3, 6, 7]) := by decide +kernel
theorem bf261_83 : am_fetch (am_mth 261) 83 = some (.astore 6, 2, [], [1, 2, 3, 6, 7]) := by decide +kernel
theorem bf261_85 : am_fetch (am_mth 261) 85 = some (.iconst 0, 1, [], [1, 2, 3, 7]) := by decide +kernel
theorem bf261_86 : am_fetch (am_mth 261) 86 = some (.istore 7, 2, [], [1, 2, 3, 7]) := by decide +kernel
theorem bf261_88 : am_fetch (am_mth 261) 88 = some (.iload 7, 2, [], [1, 2, 3]) := by decide +kernel
theorem bf261_90 : am_fetch (am_mth 261) 90 = some (.sipush 144, 3, [], [1, 2, 3]) := by decide +kernel
theorem bf261_93 : am_fetch (am_mth 261) 93 = some (.if_icmp .ge 27, 3, [], [1, 2, 3]) := by decide +kernel
theorem bf261_96 : am_fetch (am_mth 261) 96 = some (.aload 6, 2, [], [1, 2, 3]) := by decide +kernel
theorem bf261_98 : am_fetch (am_mth 261) 98 = some (.iload 7, 2, [], [1, 2, 3]) := by decide +kernel
theorem bf261_100 : am_fetch (am_mth 261) 100 = some (.iload 5, 2, [], [1, 2, 3]) := by decide +kernel
theorem bf261_102 : am_fetch (am_mth 261) 102 = some (.invokestatic 190, 3, [0, 43, 2, 1468, 1469, 48], [1, 2, 3]) := by decide +kernel
theorem bf261_105 : am_fetch (am_mth 261) 105 = some (.aload 4, 2, [], [1, 2, 3]) := by decide +kernel
theorem bf261_107 : am_fetch (am_mth 261) 107 = some (.getfield 97, 3, [0, 10, 3, 1307], [1, 2, 3]) := by decide +kernel
theorem bf261_110 : am_fetch (am_mth 261) 110 = some (.iload 7, 2, [], [1, 2, 3]) := by decide +kernel
theorem bf261_112 : am_fetch (am_mth 261) 112 = some (.baload, 1, [2], [1, 2, 3]) := by decide +kernel
theorem bf261_113 : am_fetch (am_mth 261) 113 = some (.bastore, 1, [2], [1, 2, 3]) := by decide +kernel
theorem bf261_114 : am_fetch (am_mth 261) 114 = some (.iinc 7 1, 3, [], [1, 2, 3]) := by decide +kernel
theorem bf261_117 : am_fetch (am_mth 261) 117 = some (.goto (-29), 3, [], [1, 2, 3]) := by decide +kernel
theorem bf261_120 : am_fetch (am_mth 261) 120 = some (.aload 4, 2, [], [1, 2, 3, 5, 7]) := by decide +kernel
theorem bf261_122 : am_fetch (am_mth 261) 122 = some (.aload 6, 2, [], [1, 2, 3, 5, 7]) := by decide +kernel
theorem bf261_124 : am_fetch (am_mth 261) 124 = some (.invokestatic 183, 3, [0, 102, 2, 1456, 1457, 48], [1, 2, 3, 5, 6, 7]) := by decide +kernel
theorem bf261_127 : am_fetch (am_mth 261) 127 = some (.aload_n 0, 1, [], [1, 2, 3, 5, 6, 7]) := by decide +kernel
theorem bf261_128 : am_fetch (am_mth 261) 128 = some (.aload 4, 2, [], [0, 1, 2, 3, 5, 6, 7]) := by decide +kernel
theorem bf261_130 : am_fetch (am_mth 261) 130 = some (.invokevirtual 187, 3, [0, 46, 1, 11, 1460, 1462, 33, 48], [0, 1, 2, 3, 5, 6, 7]) := by decide +kernel
theorem bf261_133 : am_fetch (am_mth 261) 133 = some (.aload 4, 2, [], [0, 1, 2, 3, 5, 6, 7]) := by decide +kernel
theorem bf261_135 : am_fetch (am_mth 261) 135 = some (.invokevirtual 143, 3, [0, 37, 0, 10, 1459, 1408, 1409, 66], [0, 1, 2, 3, 4, 5, 6, 7]) := by decide +kernel
theorem bf261_138 : am_fetch (am_mth 261) 138 = some (.ireturn, 1, [0], [0, 1, 2, 3, 4, 5, 6, 7]) := by decide +kernel
theorem bk261_0 {w : am_Wd} {l0 : Nat} {l1 : Int32} {l2 : Int32} {l3 : Int32} : am_run 261 0 [some (.ref l0), some (.int l1), some (.int l2), some (.int l3), none, none, none, none] [] w = (am_kf w l0 11).bind fun _ => (am_x 99 [.ref l0, .int l1] w).bind fun r => bct r fun v w' => am_run 261 6 [some (.ref l0), some (.int l1), some (.int l2), some (.int l3), none, none, none, none] (v.toList ++ [.ref l0]) w' := by
  refine (bu (ls'' := [some (.ref l0), some (.int l1), some (.int l2), some (.int l3), none, none, none, none]) (st' := [.ref l0]) bf261_0 bf261_1 rfl rfl).trans ?_
  refine (bu (ls'' := [some (.ref l0), some (.int l1), some (.int l2), some (.int l3), none, none, none, none]) (st' := [.ref l0, .ref l0]) bf261_1 bf261_2 rfl rfl).trans ?_
  refine (bu (ls'' := [some (.ref l0), some (.int l1), some (.int l2), some (.int l3), none, none, none, none]) (st' := [.int l1, .ref l0, .ref l0]) bf261_2 bf261_3 rfl rfl).trans ?_
  exact bkV bf261_3 bf261_6 rfl (by decide +kernel) (Nat.le_of_ble_eq_true rfl) rfl (bhd rfl)
theorem bk261_6 {w : am_Wd} {l0 : Nat} {l1 : Int32} {l2 : Int32} {l3 : Int32} {s0 : Int32} {s1 : Nat} : am_run 261 6 [some (.ref l0), some (.int l1), some (.int l2), some (.int l3), none, none, none, none] [.int s0, .ref s1] w = (am_kf w s1 11).bind fun _ => (am_x 96 [.ref s1, .int s0, .int (nI 1)] w).bind fun r => bct r fun v w' => am_run 261 10 [some (.ref l0), some (.int l1), some (.int l2), some (.int l3), none, none, none, none] (v.toList ++ []) w' := by
  refine (bu (ls'' := [some (.ref l0), some (.int l1), some (.int l2), some (.int l3), none, none, none, none]) (st' := [.int (nI 1), .int s0, .ref s1]) bf261_6 bf261_7 rfl rfl).trans ?_
  exact bkV bf261_7 bf261_10 rfl (by decide +kernel) (Nat.le_of_ble_eq_true rfl) rfl (bhd rfl)
theorem bk261_10 {w : am_Wd} {l0 : Nat} {l1 : Int32} {l2 : Int32} {l3 : Int32} {s0 : Int32} : am_run 261 10 [some (.ref l0), some (.int l1), some (.int l2), some (.int l3), none, none, none, none] [.int s0] w = if ¬ s0 = nI 0 then am_run 261 37 [none, none, none, none, none, none, none, none] [] w else am_run 261 13 [some (.ref l0), some (.int l1), some (.int l2), some (.int l3), none, none, none, none] [] w := by
  exact bifc bf261_10 rfl bf261_37 bf261_13 rfl rfl rfl
theorem bk261_37 {w : am_Wd}  : am_run 261 37 [none, none, none, none, none, none, none, none] [] w = some (.inl (some (.int (nI 0))), w) := by
  refine (bu (ls'' := [none, none, none, none, none, none, none, none]) (st' := [.int (nI 0)]) bf261_37 bf261_38 rfl rfl).trans ?_
  exact am_e2 bf261_38 rfl (am_ge_rf w)
theorem bk261_13 {w : am_Wd} {l0 : Nat} {l1 : Int32} {l2 : Int32} {l3 : Int32} : am_run 261 13 [some (.ref l0), some (.int l1), some (.int l2), some (.int l3), none, none, none, none] [] w = (am_gf w l0 11 11).bind fun v => am_run 261 19 [some (.ref l0), some (.int l1), some (.int l2), some (.int l3), none, none, none, none] (v :: [.ref l0, .ref l0]) w := by
  refine (bu (ls'' := [some (.ref l0), some (.int l1), some (.int l2), some (.int l3), none, none, none, none]) (st' := [.ref l0]) bf261_13 bf261_14 rfl rfl).trans ?_
  refine (bu (ls'' := [some (.ref l0), some (.int l1), some (.int l2), some (.int l3), none, none, none, none]) (st' := [.ref l0, .ref l0]) bf261_14 bf261_15 rfl rfl).trans ?_
  refine (bu (ls'' := [some (.ref l0), some (.int l1), some (.int l2), some (.int l3), none, none, none, none]) (st' := [.ref l0, .ref l0, .ref l0]) bf261_15 bf261_16 rfl rfl).trans ?_
  exact bh bf261_16 bf261_19 rfl (fun _ _ => am_ge_rf w) rfl
theorem bk261_19 {w : am_Wd} {l0 : Nat} {l1 : Int32} {l2 : Int32} {l3 : Int32} {s0 : Nat} {s1 : Nat} {s2 : Nat} : am_run 261 19 [some (.ref l0), some (.int l1), some (.int l2), some (.int l3), none, none, none, none] [.ref s0, .ref s1, .ref s2] w = (am_kf w s0 3).bind fun _ => (am_x 150 [.ref s0, .int l1] w).bind fun r => bct r fun v w' => am_run 261 23 [some (.ref l0), some (.int l1), some (.int l2), some (.int l3), none, none, none, none] (v.toList ++ [.ref s1, .ref s2]) w' := by
  refine (bu (ls'' := [some (.ref l0), some (.int l1), some (.int l2), some (.int l3), none, none, none, none]) (st' := [.int l1, .ref s0, .ref s1, .ref s2]) bf261_19 bf261_20 rfl rfl).trans ?_
  exact bkV bf261_20 bf261_23 rfl (by decide +kernel) (Nat.le_of_ble_eq_true rfl) rfl (bhd rfl)
theorem bk261_23 {w : am_Wd} {l0 : Nat} {l1 : Int32} {l2 : Int32} {l3 : Int32} {s0 : Nat} {s1 : Nat} {s2 : Nat} : am_run 261 23 [some (.ref l0), some (.int l1), some (.int l2), some (.int l3), none, none, none, none] [.ref s0, .ref s1, .ref s2] w = (am_kf w s0 10).bind fun _ => am_run 261 26 [some (.ref l0), some (.int l1), some (.int l2), some (.int l3), none, none, none, none] [.ref s0, .ref s1, .ref s2] w := by
  exact bh bf261_23 bf261_26 rfl (fun _ _ => am_ge_rf w) rfl
theorem bk261_26 {w : am_Wd} {l0 : Nat} {l1 : Int32} {l2 : Int32} {l3 : Int32} {s0 : Nat} {s1 : Nat} {s2 : Nat} : am_run 261 26 [some (.ref l0), some (.int l1), some (.int l2), some (.int l3), none, none, none, none] [.ref s0, .ref s1, .ref s2] w = (am_kf w s1 11).bind fun _ => (am_x 258 [.ref s1, .ref s0, .int l3] w).bind fun r => bct r fun v w' => am_run 261 30 [some (.ref l0), some (.int l1), some (.int l2), none, none, none, none, none] (v.toList ++ [.ref s2]) w' := by
  refine (bu (ls'' := [some (.ref l0), some (.int l1), some (.int l2), none, none, none, none, none]) (st' := [.int l3, .ref s0, .ref s1, .ref s2]) bf261_26 bf261_27 rfl rfl).trans ?_
  exact bkV bf261_27 bf261_30 rfl (by decide +kernel) (Nat.le_of_ble_eq_true rfl) rfl (bhd rfl)
theorem bk261_30 {w : am_Wd} {l0 : Nat} {l1 : Int32} {l2 : Int32} {s0 : Int32} {s1 : Nat} : am_run 261 30 [some (.ref l0), some (.int l1), some (.int l2), none, none, none, none, none] [.int s0, .ref s1] w = (am_kf w s1 11).bind fun _ => (am_x 40 [.ref s1, .int s0, .int (nI 2)] w).bind fun r => bct r fun v w' => am_run 261 34 [some (.ref l0), some (.int l1), some (.int l2), none, none, none, none, none] (v.toList ++ []) w' := by
  refine (bu (ls'' := [some (.ref l0), some (.int l1), some (.int l2), none, none, none, none, none]) (st' := [.int (nI 2), .int s0, .ref s1]) bf261_30 bf261_31 rfl rfl).trans ?_
  exact bkV bf261_31 bf261_34 rfl (by decide +kernel) (Nat.le_of_ble_eq_true rfl) rfl (bhd rfl)
theorem bk261_34 {w : am_Wd} {l0 : Nat} {l1 : Int32} {l2 : Int32} {s0 : Int32} : am_run 261 34 [some (.ref l0), some (.int l1), some (.int l2), none, none, none, none, none] [.int s0] w = if s0 = nI 0 then am_run 261 39 [some (.ref l0), some (.int l1), some (.int l2), none, none, none, none, none] [] w else am_run 261 37 [none, none, none, none, none, none, none, none] [] w := by
  exact bifc bf261_34 rfl bf261_39 bf261_37 rfl rfl rfl
theorem bk261_39 {w : am_Wd} {l0 : Nat} {l1 : Int32} {l2 : Int32} : am_run 261 39 [some (.ref l0), some (.int l1), some (.int l2), none, none, none, none, none] [] w = (am_gf w l0 11 11).bind fun v => am_run 261 43 [some (.ref l0), some (.int l1), some (.int l2), none, none, none, none, none] (v :: []) w := by
  refine (bu (ls'' := [some (.ref l0), some (.int l1), some (.int l2), none, none, none, none, none]) (st' := [.ref l0]) bf261_39 bf261_40 rfl rfl).trans ?_
  exact bh bf261_40 bf261_43 rfl (fun _ _ => am_ge_rf w) rfl
theorem bk261_43 {w : am_Wd} {l0 : Nat} {l1 : Int32} {l2 : Int32} {s0 : Nat} : am_run 261 43 [some (.ref l0), some (.int l1), some (.int l2), none, none, none, none, none] [.ref s0] w = (am_kf w s0 3).bind fun _ => (am_x 150 [.ref s0, .int l1] w).bind fun r => bct r fun v w' => am_run 261 47 [some (.ref l0), none, some (.int l2), none, none, none, none, none] (v.toList ++ []) w' := by
  refine (bu (ls'' := [some (.ref l0), none, some (.int l2), none, none, none, none, none]) (st' := [.int l1, .ref s0]) bf261_43 bf261_44 rfl rfl).trans ?_
  exact bkV bf261_44 bf261_47 rfl (by decide +kernel) (Nat.le_of_ble_eq_true rfl) rfl (bhd rfl)
theorem bk261_47 {w : am_Wd} {l0 : Nat} {l2 : Int32} {s0 : Nat} : am_run 261 47 [some (.ref l0), none, some (.int l2), none, none, none, none, none] [.ref s0] w = (am_kf w s0 10).bind fun _ => am_run 261 50 [some (.ref l0), none, some (.int l2), none, none, none, none, none] [.ref s0] w := by
  exact bh bf261_47 bf261_50 rfl (fun _ _ => am_ge_rf w) rfl
theorem bk261_50 {w : am_Wd} {l0 : Nat} {l2 : Int32} {s0 : Nat} : am_run 261 50 [some (.ref l0), none, some (.int l2), none, none, none, none, none] [.ref s0] w = if l2 = nI 0 then am_run 261 60 [some (.ref l0), none, none, none, some (.ref s0), none, none, none] [] w else am_run 261 56 [some (.ref l0), none, none, none, some (.ref s0), none, none, none] [] w := by
  refine (bu (ls'' := [some (.ref l0), none, some (.int l2), none, some (.ref s0), none, none, none]) (st' := []) bf261_50 bf261_52 rfl rfl).trans ?_
  refine (bu (ls'' := [some (.ref l0), none, none, none, some (.ref s0), none, none, none]) (st' := [.int l2]) bf261_52 bf261_53 rfl rfl).trans ?_
  exact bifc bf261_53 rfl bf261_60 bf261_56 rfl rfl rfl
theorem bk261_60 {w : am_Wd} {l0 : Nat} {l4 : Nat} : am_run 261 60 [some (.ref l0), none, none, none, some (.ref l4), none, none, none] [] w = am_run 261 61 [some (.ref l0), none, none, none, some (.ref l4), none, none, none] [.int (nI 3)] w := by
  refine (bu (ls'' := [some (.ref l0), none, none, none, some (.ref l4), none, none, none]) (st' := [.int (nI 3)]) bf261_60 bf261_61 rfl rfl).trans ?_
  rfl
theorem bk261_56 {w : am_Wd} {l0 : Nat} {l4 : Nat} : am_run 261 56 [some (.ref l0), none, none, none, some (.ref l4), none, none, none] [] w = am_run 261 61 [some (.ref l0), none, none, none, some (.ref l4), none, none, none] [.int (nI 1)] w := by
  refine (bu (ls'' := [some (.ref l0), none, none, none, some (.ref l4), none, none, none]) (st' := [.int (nI 1)]) bf261_56 bf261_57 rfl rfl).trans ?_
  refine (bu (ls'' := [some (.ref l0), none, none, none, some (.ref l4), none, none, none]) (st' := [.int (nI 1)]) bf261_57 bf261_61 rfl rfl).trans ?_
  rfl
theorem bk261_61 {w : am_Wd} {l0 : Nat} {l4 : Nat} {s0 : Int32} : am_run 261 61 [some (.ref l0), none, none, none, some (.ref l4), none, none, none] [.int s0] w = (am_gf w l4 10 0).bind fun v => am_run 261 70 [some (.ref l0), none, none, none, some (.ref l4), some (.int s0), none, none] (v :: [.ref l4]) w := by
  refine (bu (ls'' := [some (.ref l0), none, none, none, some (.ref l4), some (.int s0), none, none]) (st' := []) bf261_61 bf261_63 rfl rfl).trans ?_
  refine (bu (ls'' := [some (.ref l0), none, none, none, some (.ref l4), some (.int s0), none, none]) (st' := [.ref l4]) bf261_63 bf261_65 rfl rfl).trans ?_
  refine (bu (ls'' := [some (.ref l0), none, none, none, some (.ref l4), some (.int s0), none, none]) (st' := [.ref l4, .ref l4]) bf261_65 bf261_67 rfl rfl).trans ?_
  exact bh bf261_67 bf261_70 rfl (fun _ _ => am_ge_rf w) rfl
theorem bk261_70 {w : am_Wd} {l0 : Nat} {l4 : Nat} {l5 : Int32} {s0 : Int32} {s1 : Nat} : am_run 261 70 [some (.ref l0), none, none, none, some (.ref l4), some (.int l5), none, none] [.int s0, .ref s1] w = (am_x 43 [.int s0, .int l5] w).bind fun r => bct r fun v w' => am_run 261 75 [some (.ref l0), none, none, none, some (.ref l4), some (.int l5), none, none] (v.toList ++ [.ref s1]) w' := by
  refine (bu (ls'' := [some (.ref l0), none, none, none, some (.ref l4), some (.int l5), none, none]) (st' := [.int l5, .int s0, .ref s1]) bf261_70 bf261_72 rfl rfl).trans ?_
  exact bkS bf261_72 bf261_75 rfl (by decide +kernel) (Nat.le_of_ble_eq_true rfl) rfl (bhd rfl)
theorem bk261_75 {w : am_Wd} {l0 : Nat} {l4 : Nat} {l5 : Int32} {s0 : Int32} {s1 : Nat} : am_run 261 75 [some (.ref l0), none, none, none, some (.ref l4), some (.int l5), none, none] [.int s0, .ref s1] w = (am_pf w s1 10 0 (.int s0)).bind fun w' => am_run 261 78 [some (.ref l0), none, none, none, some (.ref l4), some (.int l5), none, none] [] w' := by
  exact bh bf261_75 bf261_78 rfl (bge_pf) rfl
theorem bk261_78 {w : am_Wd} {l0 : Nat} {l4 : Nat} {l5 : Int32} : am_run 261 78 [some (.ref l0), none, none, none, some (.ref l4), some (.int l5), none, none] [] w = (am_na w 2 (nI 144)).bind fun w' => am_run 261 83 [some (.ref l0), none, none, none, some (.ref l4), some (.int l5), none, none] (.ref w.2.1 :: []) w' := by
  refine (bu (ls'' := [some (.ref l0), none, none, none, some (.ref l4), some (.int l5), none, none]) (st' := [.int (nI 144)]) bf261_78 bf261_81 rfl rfl).trans ?_
  exact bh bf261_81 bf261_83 rfl (bge_na) rfl
theorem bk261_83 {w : am_Wd} {l0 : Nat} {l4 : Nat} {l5 : Int32} {s0 : Nat} : am_run 261 83 [some (.ref l0), none, none, none, some (.ref l4), some (.int l5), none, none] [.ref s0] w = am_run 261 88 [some (.ref l0), none, none, none, some (.ref l4), some (.int l5), some (.ref s0), some (.int (nI 0))] [] w := by
  refine (bu (ls'' := [some (.ref l0), none, none, none, some (.ref l4), some (.int l5), some (.ref s0), none]) (st' := []) bf261_83 bf261_85 rfl rfl).trans ?_
  refine (bu (ls'' := [some (.ref l0), none, none, none, some (.ref l4), some (.int l5), some (.ref s0), none]) (st' := [.int (nI 0)]) bf261_85 bf261_86 rfl rfl).trans ?_
  refine (bu (ls'' := [some (.ref l0), none, none, none, some (.ref l4), some (.int l5), some (.ref s0), some (.int (nI 0))]) (st' := []) bf261_86 bf261_88 rfl rfl).trans ?_
  rfl
theorem bk261_88 {w : am_Wd} {l0 : Nat} {l4 : Nat} {l5 : Int32} {l6 : Nat} {l7 : Int32} : am_run 261 88 [some (.ref l0), none, none, none, some (.ref l4), some (.int l5), some (.ref l6), some (.int l7)] [] w = if (nI 144) ≤ l7 then am_run 261 120 [some (.ref l0), none, none, none, some (.ref l4), none, some (.ref l6), none] [] w else am_run 261 96 [some (.ref l0), none, none, none, some (.ref l4), some (.int l5), some (.ref l6), some (.int l7)] [] w := by
  refine (bu (ls'' := [some (.ref l0), none, none, none, some (.ref l4), some (.int l5), some (.ref l6), some (.int l7)]) (st' := [.int l7]) bf261_88 bf261_90 rfl rfl).trans ?_
  refine (bu (ls'' := [some (.ref l0), none, none, none, some (.ref l4), some (.int l5), some (.ref l6), some (.int l7)]) (st' := [.int (nI 144), .int l7]) bf261_90 bf261_93 rfl rfl).trans ?_
  exact bic bf261_93 rfl bf261_120 bf261_96 rfl rfl rfl
theorem bk261_120 {w : am_Wd} {l0 : Nat} {l4 : Nat} {l6 : Nat} : am_run 261 120 [some (.ref l0), none, none, none, some (.ref l4), none, some (.ref l6), none] [] w = (am_x 102 [.ref l4, .ref l6] w).bind fun r => bct r fun v w' => am_run 261 127 [some (.ref l0), none, none, none, some (.ref l4), none, none, none] (v.toList ++ []) w' := by
  refine (bu (ls'' := [some (.ref l0), none, none, none, some (.ref l4), none, some (.ref l6), none]) (st' := [.ref l4]) bf261_120 bf261_122 rfl rfl).trans ?_
  refine (bu (ls'' := [some (.ref l0), none, none, none, some (.ref l4), none, none, none]) (st' := [.ref l6, .ref l4]) bf261_122 bf261_124 rfl rfl).trans ?_
  exact bkS bf261_124 bf261_127 rfl (by decide +kernel) (Nat.le_of_ble_eq_true rfl) rfl (bhd rfl)
theorem bk261_96 {w : am_Wd} {l0 : Nat} {l4 : Nat} {l5 : Int32} {l6 : Nat} {l7 : Int32} : am_run 261 96 [some (.ref l0), none, none, none, some (.ref l4), some (.int l5), some (.ref l6), some (.int l7)] [] w = (am_x 43 [.int l7, .int l5] w).bind fun r => bct r fun v w' => am_run 261 105 [some (.ref l0), none, none, none, some (.ref l4), some (.int l5), some (.ref l6), some (.int l7)] (v.toList ++ [.ref l6]) w' := by
  refine (bu (ls'' := [some (.ref l0), none, none, none, some (.ref l4), some (.int l5), some (.ref l6), some (.int l7)]) (st' := [.ref l6]) bf261_96 bf261_98 rfl rfl).trans ?_
  refine (bu (ls'' := [some (.ref l0), none, none, none, some (.ref l4), some (.int l5), some (.ref l6), some (.int l7)]) (st' := [.int l7, .ref l6]) bf261_98 bf261_100 rfl rfl).trans ?_
  refine (bu (ls'' := [some (.ref l0), none, none, none, some (.ref l4), some (.int l5), some (.ref l6), some (.int l7)]) (st' := [.int l5, .int l7, .ref l6]) bf261_100 bf261_102 rfl rfl).trans ?_
  exact bkS bf261_102 bf261_105 rfl (by decide +kernel) (Nat.le_of_ble_eq_true rfl) rfl (bhd rfl)
theorem bk261_127 {w : am_Wd} {l0 : Nat} {l4 : Nat} : am_run 261 127 [some (.ref l0), none, none, none, some (.ref l4), none, none, none] [] w = (am_kf w l0 11).bind fun _ => (am_x 46 [.ref l0, .ref l4] w).bind fun r => bct r fun v w' => am_run 261 133 [none, none, none, none, some (.ref l4), none, none, none] (v.toList ++ []) w' := by
  refine (bu (ls'' := [none, none, none, none, some (.ref l4), none, none, none]) (st' := [.ref l0]) bf261_127 bf261_128 rfl rfl).trans ?_
  refine (bu (ls'' := [none, none, none, none, some (.ref l4), none, none, none]) (st' := [.ref l4, .ref l0]) bf261_128 bf261_130 rfl rfl).trans ?_
  exact bkV bf261_130 bf261_133 rfl (by decide +kernel) (Nat.le_of_ble_eq_true rfl) rfl (bhd rfl)
theorem bk261_105 {w : am_Wd} {l0 : Nat} {l4 : Nat} {l5 : Int32} {l6 : Nat} {l7 : Int32} {s0 : Int32} {s1 : Nat} : am_run 261 105 [some (.ref l0), none, none, none, some (.ref l4), some (.int l5), some (.ref l6), some (.int l7)] [.int s0, .ref s1] w = (am_gf w l4 10 3).bind fun v => am_run 261 110 [some (.ref l0), none, none, none, some (.ref l4), some (.int l5), some (.ref l6), some (.int l7)] (v :: [.int s0, .ref s1]) w := by
  refine (bu (ls'' := [some (.ref l0), none, none, none, some (.ref l4), some (.int l5), some (.ref l6), some (.int l7)]) (st' := [.ref l4, .int s0, .ref s1]) bf261_105 bf261_107 rfl rfl).trans ?_
  exact bh bf261_107 bf261_110 rfl (fun _ _ => am_ge_rf w) rfl
theorem bk261_133 {w : am_Wd} {l4 : Nat} : am_run 261 133 [none, none, none, none, some (.ref l4), none, none, none] [] w = (am_kf w l4 10).bind fun _ => (am_x 37 [.ref l4] w).bind fun r => bct r fun v w' => am_run 261 138 [none, none, none, none, none, none, none, none] (v.toList ++ []) w' := by
  refine (bu (ls'' := [none, none, none, none, none, none, none, none]) (st' := [.ref l4]) bf261_133 bf261_135 rfl rfl).trans ?_
  exact bkV bf261_135 bf261_138 rfl (by decide +kernel) (Nat.le_of_ble_eq_true rfl) rfl (bhd rfl)
theorem bk261_110 {w : am_Wd} {l0 : Nat} {l4 : Nat} {l5 : Int32} {l6 : Nat} {l7 : Int32} {s0 : Nat} {s1 : Int32} {s2 : Nat} : am_run 261 110 [some (.ref l0), none, none, none, some (.ref l4), some (.int l5), some (.ref l6), some (.int l7)] [.ref s0, .int s1, .ref s2] w = (am_ri 2 w s0 l7).bind fun v => am_run 261 113 [some (.ref l0), none, none, none, some (.ref l4), some (.int l5), some (.ref l6), some (.int l7)] (.int v :: [.int s1, .ref s2]) w := by
  refine (bu (ls'' := [some (.ref l0), none, none, none, some (.ref l4), some (.int l5), some (.ref l6), some (.int l7)]) (st' := [.int l7, .ref s0, .int s1, .ref s2]) bf261_110 bf261_112 rfl rfl).trans ?_
  exact bh bf261_112 bf261_113 rfl (fun _ _ => am_ge_rf w) rfl
theorem bk261_138 {w : am_Wd} {s0 : Int32} : am_run 261 138 [none, none, none, none, none, none, none, none] [.int s0] w = some (.inl (some (.int s0)), w) := by
  exact am_e2 bf261_138 rfl (am_ge_rf w)
theorem bk261_113 {w : am_Wd} {l0 : Nat} {l4 : Nat} {l5 : Int32} {l6 : Nat} {l7 : Int32} {s0 : Int32} {s1 : Int32} {s2 : Nat} : am_run 261 113 [some (.ref l0), none, none, none, some (.ref l4), some (.int l5), some (.ref l6), some (.int l7)] [.int s0, .int s1, .ref s2] w = (am_wi 2 w s2 s1 (vp_nar .boolean s0)).bind fun w' => am_run 261 114 [some (.ref l0), none, none, none, some (.ref l4), some (.int l5), some (.ref l6), some (.int l7)] [] w' := by
  exact bh bf261_113 bf261_114 rfl (bge_wi) rfl
theorem bk261_114 {w : am_Wd} {l0 : Nat} {l4 : Nat} {l5 : Int32} {l6 : Nat} {l7 : Int32} : am_run 261 114 [some (.ref l0), none, none, none, some (.ref l4), some (.int l5), some (.ref l6), some (.int l7)] [] w = am_run 261 88 [some (.ref l0), none, none, none, some (.ref l4), some (.int l5), some (.ref l6), some (.int (l7 + (nI 1)))] [] w := by
  refine (bu (ls'' := [some (.ref l0), none, none, none, some (.ref l4), some (.int l5), some (.ref l6), some (.int (l7 + (nI 1)))]) (st' := []) bf261_114 bf261_117 rfl rfl).trans ?_
  refine (bu (ls'' := [some (.ref l0), none, none, none, some (.ref l4), some (.int l5), some (.ref l6), some (.int (l7 + (nI 1)))]) (st' := []) bf261_117 bf261_88 rfl rfl).trans ?_
  rfl
theorem bf262_0 : am_fetch (am_mth 262) 0 = some (.aload_n 0, 1, [], [3, 4, 5, 6]) := by decide +kernel
theorem bf262_1 : am_fetch (am_mth 262) 1 = some (.aload_n 0, 1, [], [3, 4, 5, 6]) := by decide +kernel
theorem bf262_2 : am_fetch (am_mth 262) 2 = some (.iload_n 1, 1, [], [3, 4, 5, 6]) := by decide +kernel
theorem bf262_3 : am_fetch (am_mth 262) 3 = some (.invokevirtual 149, 3, [0, 99, 1, 11, 1387, 1389, 24, 48], [3, 4, 5, 6]) := by decide +kernel
theorem bf262_6 : am_fetch (am_mth 262) 6 = some (.iconst 1, 1, [], [3, 4, 5, 6]) := by decide +kernel
theorem bf262_7 : am_fetch (am_mth 262) 7 = some (.invokevirtual 83, 3, [0, 96, 2, 11, 1251, 1253, 18, 48], [3, 4, 5, 6]) := by decide +kernel
theorem bf262_10 : am_fetch (am_mth 262) 10 = some (.ifCond .ne 27, 3, [], [3, 4, 5, 6]) := by decide +kernel
theorem bf262_13 : am_fetch (am_mth 262) 13 = some (.aload_n 0, 1, [], [3, 4, 5, 6]) := by decide +kernel
theorem bf262_14 : am_fetch (am_mth 262) 14 = some (.aload_n 0, 1, [], [3, 4, 5, 6]) := by decide +kernel
theorem bf262_15 : am_fetch (am_mth 262) 15 = some (.aload_n 0, 1, [], [3, 4, 5, 6]) := by decide +kernel
theorem bf262_16 : am_fetch (am_mth 262) 16 = some (.getfield 31, 3, [0, 11, 11, 1208], [3, 4, 5, 6]) := by decide +kernel
theorem bf262_19 : am_fetch (am_mth 262) 19 = some (.iload_n 1, 1, [], [3, 4, 5, 6]) := by decide +kernel
theorem bf262_20 : am_fetch (am_mth 262) 20 = some (.invokevirtual 152, 3, [0, 150, 1, 3, 1391, 1392, 1393, 51], [3, 4, 5, 6]) := by decide +kernel
theorem bf262_23 : am_fetch (am_mth 262) 23 = some (.checkcast 72, 3, [0, 10, 1295], [3, 4, 5, 6]) := by decide +kernel
theorem bf262_26 : am_fetch (am_mth 262) 26 = some (.iload_n 2, 1, [], [3, 4, 5, 6]) := by decide +kernel
theorem bf262_27 : am_fetch (am_mth 262) 27 = some (.invokevirtual 156, 3, [0, 258, 2, 11, 1411, 1413, 25, 48], [2, 3, 4, 5, 6]) := by decide +kernel
theorem bf262_30 : am_fetch (am_mth 262) 30 = some (.iconst 2, 1, [], [2, 3, 4, 5, 6]) := by decide +kernel
theorem bf262_31 : am_fetch (am_mth 262) 31 = some (.invokevirtual 38, 3, [0, 40, 2, 11, 1255, 1257, 19, 48], [2, 3, 4, 5, 6]) := by decide +kernel
theorem bf262_34 : am_fetch (am_mth 262) 34 = some (.ifCond .eq 5, 3, [], [2, 3, 4, 5, 6]) := by decide +kernel
theorem bf262_37 : am_fetch (am_mth 262) 37 = some (.iconst 0, 1, [], [0, 1, 2, 3, 4, 5, 6]) := by decide +kernel
theorem bf262_38 : am_fetch (am_mth 262) 38 = some (.ireturn, 1, [0], [0, 1, 2, 3, 4, 5, 6]) := by decide +kernel
theorem bf262_39 : am_fetch (am_mth 262) 39 = some (.aload_n 0, 1, [], [2, 3, 4, 5, 6]) := by decide +kernel
theorem bf262_40 : am_fetch (am_mth 262) 40 = some (.getfield 31, 3, [0, 11, 11, 1208], [2, 3, 4, 5, 6]) := by decide +kernel
theorem bf262_43 : am_fetch (am_mth 262) 43 = some (.iload_n 1, 1, [], [2, 3, 4, 5, 6]) := by decide +kernel
theorem bf262_44 : am_fetch (am_mth 262) 44 = some (.invokevirtual 152, 3, [0, 150, 1, 3, 1391, 1392, 1393, 51], [1, 2, 3, 4, 5, 6]) := by decide +kernel
theorem bf262_47 : am_fetch (am_mth 262) 47 = some (.checkcast 72, 3, [0, 10, 1295], [1, 2, 3, 4, 5, 6]) := by decide +kernel
theorem bf262_50 : am_fetch (am_mth 262) 50 = some (.astore_n 3, 1, [], [1, 2, 3, 4, 5, 6]) := by decide +kernel
theorem bf262_51 : am_fetch (am_mth 262) 51 = some (.aload_n 0, 1, [], [1, 2, 4, 5, 6]) := by decide +kernel
theorem bf262_52 : am_fetch (am_mth 262) 52 = some (.aload_n 3, 1, [], [1, 2, 4, 5, 6]) := by decide +kernel
theorem bf262_53 : am_fetch (am_mth 262) 53 = some (.invokevirtual 160, 3, [0, 38, 0, 10, 1434, 1435, 1436, 66], [1, 2, 4, 5, 6]) := by decide +kernel
theorem bf262_56 : am_fetch (am_mth 262) 56 = some (.aload_n 3, 1, [], [1, 2, 4, 5, 6]) := by decide +kernel
theorem bf262_57 : am_fetch (am_mth 262) 57 = some (.getfield 101, 3, [0, 10, 0, 1303], [1, 2, 4, 5, 6]) := by decide +kernel
theorem bf262_60 : am_fetch (am_mth 262) 60 = some (.iconst 4, 1, [], [1, 2, 4, 5, 6]) := by decide +kernel
theorem bf262_61 : am_fetch (am_mth 262) 61 = some (.irem, 1, [], [1, 2, 4, 5, 6]) := by decide +kernel
theorem bf262_62 : am_fetch (am_mth 262) 62 = some (.invokevirtual 193, 3, [0, 210, 2, 11, 1475, 1477, 34, 48], [1, 2, 4, 5, 6]) := by decide +kernel
theorem bf262_65 : am_fetch (am_mth 262) 65 = some (.istore 4, 2, [], [1, 2, 4, 5, 6]) := by decide +kernel
theorem bf262_67 : am_fetch (am_mth 262) 67 = some (.aload_n 3, 1, [], [1, 2, 5, 6]) := by decide +kernel
theorem bf262_68 : am_fetch (am_mth 262) 68 = some (.invokevirtual 122, 3, [0, 95, 0, 10, 1403, 1404, 1405, 66], [1, 2, 5, 6]) := by decide +kernel
theorem bf262_71 : am_fetch (am_mth 262) 71 = some (.istore 5, 2, [], [1, 2, 5, 6]) := by decide +kernel
theorem bf262_73 : am_fetch (am_mth 262) 73 = some (.iconst 0, 1, [], [1, 2, 6]) := by decide +kernel
theorem bf262_74 : am_fetch (am_mth 262) 74 = some (.istore 6, 2, [], [1, 2, 6]) := by decide +kernel
theorem bf262_76 : am_fetch (am_mth 262) 76 = some (.iload 6, 2, [], [1, 2]) := by decide +kernel
theorem bf262_78 : am_fetch (am_mth 262) 78 = some (.iconst 3, 1, [], [1, 2]) := by decide +kernel
theorem bf262_79 : am_fetch (am_mth 262) 79 = some (.if_icmp .ge 48, 3, [], [1, 2]) := by decide +kernel
theorem bf262_82 : am_fetch (am_mth 262) 82 = some (.iload 5, 2, [], [1, 2]) := by decide +kernel
theorem bf262_84 : am_fetch (am_mth 262) 84 = some (.iconst (-1), 1, [], [1, 2]) := by decide +kernel
theorem bf262_85 : am_fetch (am_mth 262) 85 = some (.if_icmp .eq 42, 3, [], [1, 2]) := by decide +kernel
theorem bf262_88 : am_fetch (am_mth 262) 88 = some (.aload_n 3, 1, [], [1, 2]) := by decide +kernel
theorem bf262_89 : am_fetch (am_mth 262) 89 = some (.iload 5, 2, [], [1, 2]) := by decide +kernel
theorem bf262_91 : am_fetch (am_mth 262) 91 = some (.iconst 4, 1, [], [1, 2]) := by decide +kernel
theorem bf262_92 : am_fetch (am_mth 262) 92 = some (.idiv, 1, [], [1, 2]) := by decide +kernel
theorem bf262_93 : am_fetch (am_mth 262) 93 = some (.iload 5, 2, [], [1, 2]) := by decide +kernel
theorem bf262_95 : am_fetch (am_mth 262) 95 = some (.iconst 3, 1, [], [1, 2]) := by decide +kernel
theorem bf262_96 : am_fetch (am_mth 262) 96 = some (.iadd, 1, [], [1, 2]) := by decide +kernel
theorem bf262_97 : am_fetch (am_mth 262) 97 = some (.iload 6, 2, [], [1, 2]) := by decide +kernel
theorem bf262_99 : am_fetch (am_mth 262) 99 = some (.iadd, 1, [], [1, 2]) := by decide +kernel
theorem bf262_100 : am_fetch (am_mth 262) 100 = some (.iconst 4, 1, [], [1, 2]) := by decide +kernel
theorem bf262_101 : am_fetch (am_mth 262) 101 = some (.irem, 1, [], [1, 2]) := by decide +kernel
theorem bf262_102 : am_fetch (am_mth 262) 102 = some (.iload 4, 2, [], [1, 2]) := by decide +kernel
theorem bf262_104 : am_fetch (am_mth 262) 104 = some (.iload 6, 2, [], [1, 2]) := by decide +kernel
theorem bf262_106 : am_fetch (am_mth 262) 106 = some (.ishr, 1, [], [1, 2]) := by decide +kernel
theorem bf262_107 : am_fetch (am_mth 262) 107 = some (.iconst 1, 1, [], [1, 2]) := by decide +kernel
theorem bf262_108 : am_fetch (am_mth 262) 108 = some (.iand, 1, [], [1, 2]) := by decide +kernel
theorem bf262_109 : am_fetch (am_mth 262) 109 = some (.iconst 1, 1, [], [1, 2]) := by decide +kernel
theorem bf262_110 : am_fetch (am_mth 262) 110 = some (.if_icmp .ne 7, 3, [], [1, 2]) := by decide +kernel
theorem bf262_113 : am_fetch (am_mth 262) 113 = some (.iconst 1, 1, [], [1, 2]) := by decide +kernel
theorem bf262_114 : am_fetch (am_mth 262) 114 = some (.goto 4, 3, [], [1, 2]) := by decide +kernel
theorem bf262_117 : am_fetch (am_mth 262) 117 = some (.iconst 0, 1, [], [1, 2]) := by decide +kernel
theorem bf262_118 : am_fetch (am_mth 262) 118 = some (.invokestatic 175, 3, [0, 175, 4, 1450, 1451, 48], [1, 2]) := by decide +kernel
theorem bf262_121 : am_fetch (am_mth 262) 121 = some (.iinc 6 1, 3, [], [1, 2]) := by decide +kernel
theorem bf262_124 : am_fetch (am_mth 262) 124 = some (.goto (-48), 3, [], [1, 2]) := by decide +kernel
theorem bf262_127 : am_fetch (am_mth 262) 127 = some (.aload_n 3, 1, [], [1, 2, 5, 6]) := by decide +kernel
theorem bf262_128 : am_fetch (am_mth 262) 128 = some (.aload_n 3, 1, [], [1, 2, 5, 6]) := by decide +kernel
theorem bf262_129 : am_fetch (am_mth 262) 129 = some (.iload 4, 2, [], [1, 2, 5, 6]) := by decide +kernel
theorem bf262_131 : am_fetch (am_mth 262) 131 = some (.invokestatic 196, 3, [0, 211, 2, 1479, 1480, 48], [1, 2, 5, 6]) := by decide +kernel
theorem bf262_134 : am_fetch (am_mth 262) 134 = some (.invokestatic 183, 3, [0, 102, 2, 1456, 1457, 48], [1, 2, 5, 6]) := by decide +kernel
theorem bf262_137 : am_fetch (am_mth 262) 137 = some (.aload_n 0, 1, [], [1, 2, 5, 6]) := by decide +kernel
theorem bf262_138 : am_fetch (am_mth 262) 138 = some (.aload_n 3, 1, [], [0, 1, 2, 5, 6]) := by decide +kernel
theorem bf262_139 : am_fetch (am_mth 262) 139 = some (.invokevirtual 187, 3, [0, 46, 1, 11, 1460, 1462, 33, 48], [0, 1, 2, 3, 5, 6]) := by decide +kernel
theorem bf262_142 : am_fetch (am_mth 262) 142 = some (.iload 4, 2, [], [0, 1, 2, 3, 5, 6]) := by decide +kernel
theorem bf262_144 : am_fetch (am_mth 262) 144 = some (.ireturn, 1, [0], [0, 1, 2, 3, 4, 5, 6]) := by decide +kernel
theorem bk262_0 {w : am_Wd} {l0 : Nat} {l1 : Int32} {l2 : Int32} : am_run 262 0 [some (.ref l0), some (.int l1), some (.int l2), none, none, none, none] [] w = (am_kf w l0 11).bind fun _ => (am_x 99 [.ref l0, .int l1] w).bind fun r => bct r fun v w' => am_run 262 6 [some (.ref l0), some (.int l1), some (.int l2), none, none, none, none] (v.toList ++ [.ref l0]) w' := by
  refine (bu (ls'' := [some (.ref l0), some (.int l1), some (.int l2), none, none, none, none]) (st' := [.ref l0]) bf262_0 bf262_1 rfl rfl).trans ?_
  refine (bu (ls'' := [some (.ref l0), some (.int l1), some (.int l2), none, none, none, none]) (st' := [.ref l0, .ref l0]) bf262_1 bf262_2 rfl rfl).trans ?_
  refine (bu (ls'' := [some (.ref l0), some (.int l1), some (.int l2), none, none, none, none]) (st' := [.int l1, .ref l0, .ref l0]) bf262_2 bf262_3 rfl rfl).trans ?_
  exact bkV bf262_3 bf262_6 rfl (by decide +kernel) (Nat.le_of_ble_eq_true rfl) rfl (bhd rfl)
theorem bk262_6 {w : am_Wd} {l0 : Nat} {l1 : Int32} {l2 : Int32} {s0 : Int32} {s1 : Nat} : am_run 262 6 [some (.ref l0), some (.int l1), some (.int l2), none, none, none, none] [.int s0, .ref s1] w = (am_kf w s1 11).bind fun _ => (am_x 96 [.ref s1, .int s0, .int (nI 1)] w).bind fun r => bct r fun v w' => am_run 262 10 [some (.ref l0), some (.int l1), some (.int l2), none, none, none, none] (v.toList ++ []) w' := by
  refine (bu (ls'' := [some (.ref l0), some (.int l1), some (.int l2), none, none, none, none]) (st' := [.int (nI 1), .int s0, .ref s1]) bf262_6 bf262_7 rfl rfl).trans ?_
  exact bkV bf262_7 bf262_10 rfl (by decide +kernel) (Nat.le_of_ble_eq_true rfl) rfl (bhd rfl)
theorem bk262_10 {w : am_Wd} {l0 : Nat} {l1 : Int32} {l2 : Int32} {s0 : Int32} : am_run 262 10 [some (.ref l0), some (.int l1), some (.int l2), none, none, none, none] [.int s0] w = if ¬ s0 = nI 0 then am_run 262 37 [none, none, none, none, none, none, none] [] w else am_run 262 13 [some (.ref l0), some (.int l1), some (.int l2), none, none, none, none] [] w := by
  exact bifc bf262_10 rfl bf262_37 bf262_13 rfl rfl rfl
theorem bk262_37 {w : am_Wd}  : am_run 262 37 [none, none, none, none, none, none, none] [] w = some (.inl (some (.int (nI 0))), w) := by
  refine (bu (ls'' := [none, none, none, none, none, none, none]) (st' := [.int (nI 0)]) bf262_37 bf262_38 rfl rfl).trans ?_
  exact am_e2 bf262_38 rfl (am_ge_rf w)
theorem bk262_13 {w : am_Wd} {l0 : Nat} {l1 : Int32} {l2 : Int32} : am_run 262 13 [some (.ref l0), some (.int l1), some (.int l2), none, none, none, none] [] w = (am_gf w l0 11 11).bind fun v => am_run 262 19 [some (.ref l0), some (.int l1), some (.int l2), none, none, none, none] (v :: [.ref l0, .ref l0]) w := by
  refine (bu (ls'' := [some (.ref l0), some (.int l1), some (.int l2), none, none, none, none]) (st' := [.ref l0]) bf262_13 bf262_14 rfl rfl).trans ?_
  refine (bu (ls'' := [some (.ref l0), some (.int l1), some (.int l2), none, none, none, none]) (st' := [.ref l0, .ref l0]) bf262_14 bf262_15 rfl rfl).trans ?_
  refine (bu (ls'' := [some (.ref l0), some (.int l1), some (.int l2), none, none, none, none]) (st' := [.ref l0, .ref l0, .ref l0]) bf262_15 bf262_16 rfl rfl).trans ?_
  exact bh bf262_16 bf262_19 rfl (fun _ _ => am_ge_rf w) rfl
theorem bk262_19 {w : am_Wd} {l0 : Nat} {l1 : Int32} {l2 : Int32} {s0 : Nat} {s1 : Nat} {s2 : Nat} : am_run 262 19 [some (.ref l0), some (.int l1), some (.int l2), none, none, none, none] [.ref s0, .ref s1, .ref s2] w = (am_kf w s0 3).bind fun _ => (am_x 150 [.ref s0, .int l1] w).bind fun r => bct r fun v w' => am_run 262 23 [some (.ref l0), some (.int l1), some (.int l2), none, none, none, none] (v.toList ++ [.ref s1, .ref s2]) w' := by
  refine (bu (ls'' := [some (.ref l0), some (.int l1), some (.int l2), none, none, none, none]) (st' := [.int l1, .ref s0, .ref s1, .ref s2]) bf262_19 bf262_20 rfl rfl).trans ?_
  exact bkV bf262_20 bf262_23 rfl (by decide +kernel) (Nat.le_of_ble_eq_true rfl) rfl (bhd rfl)
theorem bk262_23 {w : am_Wd} {l0 : Nat} {l1 : Int32} {l2 : Int32} {s0 : Nat} {s1 : Nat} {s2 : Nat} : am_run 262 23 [some (.ref l0), some (.int l1), some (.int l2), none, none, none, none] [.ref s0, .ref s1, .ref s2] w = (am_kf w s0 10).bind fun _ => am_run 262 26 [some (.ref l0), some (.int l1), some (.int l2), none, none, none, none] [.ref s0, .ref s1, .ref s2] w := by
  exact bh bf262_23 bf262_26 rfl (fun _ _ => am_ge_rf w) rfl
theorem bk262_26 {w : am_Wd} {l0 : Nat} {l1 : Int32} {l2 : Int32} {s0 : Nat} {s1 : Nat} {s2 : Nat} : am_run 262 26 [some (.ref l0), some (.int l1), some (.int l2), none, none, none, none] [.ref s0, .ref s1, .ref s2] w = (am_kf w s1 11).bind fun _ => (am_x 258 [.ref s1, .ref s0, .int l2] w).bind fun r => bct r fun v w' => am_run 262 30 [some (.ref l0), some (.int l1), none, none, none, none, none] (v.toList ++ [.ref s2]) w' := by
  refine (bu (ls'' := [some (.ref l0), some (.int l1), none, none, none, none, none]) (st' := [.int l2, .ref s0, .ref s1, .ref s2]) bf262_26 bf262_27 rfl rfl).trans ?_
  exact bkV bf262_27 bf262_30 rfl (by decide +kernel) (Nat.le_of_ble_eq_true rfl) rfl (bhd rfl)
theorem bk262_30 {w : am_Wd} {l0 : Nat} {l1 : Int32} {s0 : Int32} {s1 : Nat} : am_run 262 30 [some (.ref l0), some (.int l1), none, none, none, none, none] [.int s0, .ref s1] w = (am_kf w s1 11).bind fun _ => (am_x 40 [.ref s1, .int s0, .int (nI 2)] w).bind fun r => bct r fun v w' => am_run 262 34 [some (.ref l0), some (.int l1), none, none, none, none, none] (v.toList ++ []) w' := by
  refine (bu (ls'' := [some (.ref l0), some (.int l1), none, none, none, none, none]) (st' := [.int (nI 2), .int s0, .ref s1]) bf262_30 bf262_31 rfl rfl).trans ?_
  exact bkV bf262_31 bf262_34 rfl (by decide +kernel) (Nat.le_of_ble_eq_true rfl) rfl (bhd rfl)
theorem bk262_34 {w : am_Wd} {l0 : Nat} {l1 : Int32} {s0 : Int32} : am_run 262 34 [some (.ref l0), some (.int l1), none, none, none, none, none] [.int s0] w = if s0 = nI 0 then am_run 262 39 [some (.ref l0), some (.int l1), none, none, none, none, none] [] w else am_run 262 37 [none, none, none, none, none, none, none] [] w := by
  exact bifc bf262_34 rfl bf262_39 bf262_37 rfl rfl rfl
theorem bk262_39 {w : am_Wd} {l0 : Nat} {l1 : Int32} : am_run 262 39 [some (.ref l0), some (.int l1), none, none, none, none, none] [] w = (am_gf w l0 11 11).bind fun v => am_run 262 43 [some (.ref l0), some (.int l1), none, none, none, none, none] (v :: []) w := by
  refine (bu (ls'' := [some (.ref l0), some (.int l1), none, none, none, none, none]) (st' := [.ref l0]) bf262_39 bf262_40 rfl rfl).trans ?_
  exact bh bf262_40 bf262_43 rfl (fun _ _ => am_ge_rf w) rfl
theorem bk262_43 {w : am_Wd} {l0 : Nat} {l1 : Int32} {s0 : Nat} : am_run 262 43 [some (.ref l0), some (.int l1), none, none, none, none, none] [.ref s0] w = (am_kf w s0 3).bind fun _ => (am_x 150 [.ref s0, .int l1] w).bind fun r => bct r fun v w' => am_run 262 47 [some (.ref l0), none, none, none, none, none, none] (v.toList ++ []) w' := by
  refine (bu (ls'' := [some (.ref l0), none, none, none, none, none, none]) (st' := [.int l1, .ref s0]) bf262_43 bf262_44 rfl rfl).trans ?_
  exact bkV bf262_44 bf262_47 rfl (by decide +kernel) (Nat.le_of_ble_eq_true rfl) rfl (bhd rfl)
theorem bk262_47 {w : am_Wd} {l0 : Nat} {s0 : Nat} : am_run 262 47 [some (.ref l0), none, none, none, none, none, none] [.ref s0] w = (am_kf w s0 10).bind fun _ => am_run 262 50 [some (.ref l0), none, none, none, none, none, none] [.ref s0] w := by
  exact bh bf262_47 bf262_50 rfl (fun _ _ => am_ge_rf w) rfl
theorem bk262_50 {w : am_Wd} {l0 : Nat} {s0 : Nat} : am_run 262 50 [some (.ref l0), none, none, none, none, none, none] [.ref s0] w = (am_kf w s0 10).bind fun _ => (am_x 38 [.ref s0] w).bind fun r => bct r fun v w' => am_run 262 56 [some (.ref l0), none, none, some (.ref s0), none, none, none] (v.toList ++ [.ref l0]) w' := by
  refine (bu (ls'' := [some (.ref l0), none, none, some (.ref s0), none, none, none]) (st' := []) bf262_50 bf262_51 rfl rfl).trans ?_
  refine (bu (ls'' := [some (.ref l0), none, none, some (.ref s0), none, none, none]) (st' := [.ref l0]) bf262_51 bf262_52 rfl rfl).trans ?_
  refine (bu (ls'' := [some (.ref l0), none, none, some (.ref s0), none, none, none]) (st' := [.ref s0, .ref l0]) bf262_52 bf262_53 rfl rfl).trans ?_
  exact bkV bf262_53 bf262_56 rfl (by decide +kernel) (Nat.le_of_ble_eq_true rfl) rfl (bhd rfl)
theorem bk262_56 {w : am_Wd} {l0 : Nat} {l3 : Nat} {s0 : Int32} {s1 : Nat} : am_run 262 56 [some (.ref l0), none, none, some (.ref l3), none, none, none] [.int s0, .ref s1] w = (am_gf w l3 10 0).bind fun v => am_run 262 60 [some (.ref l0), none, none, some (.ref l3), none, none, none] (v :: [.int s0, .ref s1]) w := by
  refine (bu (ls'' := [some (.ref l0), none, none, some (.ref l3), none, none, none]) (st' := [.ref l3, .int s0, .ref s1]) bf262_56 bf262_57 rfl rfl).trans ?_
  exact bh bf262_57 bf262_60 rfl (fun _ _ => am_ge_rf w) rfl
theorem bk262_60 {w : am_Wd} {l0 : Nat} {l3 : Nat} {s0 : Int32} {s1 : Int32} {s2 : Nat} : am_run 262 60 [some (.ref l0), none, none, some (.ref l3), none, none, none] [.int s0, .int s1, .ref s2] w = (am_kf w s2 11).bind fun _ => (am_x 210 [.ref s2, .int s1, .int (bj_irem s0 (nI 4))] w).bind fun r => bct r fun v w' => am_run 262 65 [some (.ref l0), none, none, some (.ref l3), none, none, none] (v.toList ++ []) w' := by
  refine (bu (ls'' := [some (.ref l0), none, none, some (.ref l3), none, none, none]) (st' := [.int (nI 4), .int s0, .int s1, .ref s2]) bf262_60 bf262_61 rfl rfl).trans ?_
  refine (bu (ls'' := [some (.ref l0), none, none, some (.ref l3), none, none, none]) (st' := [.int (bj_irem s0 (nI 4)), .int s1, .ref s2]) bf262_61 bf262_62 rfl rfl).trans ?_
  exact bkV bf262_62 bf262_65 rfl (by decide +kernel) (Nat.le_of_ble_eq_true rfl) rfl (bhd rfl)
theorem bk262_65 {w : am_Wd} {l0 : Nat} {l3 : Nat} {s0 : Int32} : am_run 262 65 [some (.ref l0), none, none, some (.ref l3), none, none, none] [.int s0] w = (am_kf w l3 10).bind fun _ => (am_x 95 [.ref l3] w).bind fun r => bct r fun v w' => am_run 262 71 [some (.ref l0), none, none, some (.ref l3), some (.int s0), none, none] (v.toList ++ []) w' := by
  refine (bu (ls'' := [some (.ref l0), none, none, some (.ref l3), some (.int s0), none, none]) (st' := []) bf262_65 bf262_67 rfl rfl).trans ?_
  refine (bu (ls'' := [some (.ref l0), none, none, some (.ref l3), some (.int s0), none, none]) (st' := [.ref l3]) bf262_67 bf262_68 rfl rfl).trans ?_
  exact bkV bf262_68 bf262_71 rfl (by decide +kernel) (Nat.le_of_ble_eq_true rfl) rfl (bhd rfl)
theorem bk262_71 {w : am_Wd} {l0 : Nat} {l3 : Nat} {l4 : Int32} {s0 : Int32} : am_run 262 71 [some (.ref l0), none, none, some (.ref l3), some (.int l4), none, none] [.int s0] w = am_run 262 76 [some (.ref l0), none, none, some (.ref l3), some (.int l4), some (.int s0), some (.int (nI 0))] [] w := by
  refine (bu (ls'' := [some (.ref l0), none, none, some (.ref l3), some (.int l4), some (.int s0), none]) (st' := []) bf262_71 bf262_73 rfl rfl).trans ?_
  refine (bu (ls'' := [some (.ref l0), none, none, some (.ref l3), some (.int l4), some (.int s0), none]) (st' := [.int (nI 0)]) bf262_73 bf262_74 rfl rfl).trans ?_
  refine (bu (ls'' := [some (.ref l0), none, none, some (.ref l3), some (.int l4), some (.int s0), some (.int (nI 0))]) (st' := []) bf262_74 bf262_76 rfl rfl).trans ?_
  rfl
theorem bk262_76 {w : am_Wd} {l0 : Nat} {l3 : Nat} {l4 : Int32} {l5 : Int32} {l6 : Int32} : am_run 262 76 [some (.ref l0), none, none, some (.ref l3), some (.int l4), some (.int l5), some (.int l6)] [] w = if (nI 3) ≤ l6 then am_run 262 127 [some (.ref l0), none, none, some (.ref l3), some (.int l4), none, none] [] w else am_run 262 82 [some (.ref l0), none, none, some (.ref l3), some (.int l4), some (.int l5), some (.int l6)] [] w := by
  refine (bu (ls'' := [some (.ref l0), none, none, some (.ref l3), some (.int l4), some (.int l5), some (.int l6)]) (st' := [.int l6]) bf262_76 bf262_78 rfl rfl).trans ?_
  refine (bu (ls'' := [some (.ref l0), none, none, some (.ref l3), some (.int l4), some (.int l5), some (.int l6)]) (st' := [.int (nI 3), .int l6]) bf262_78 bf262_79 rfl rfl).trans ?_
  exact bic bf262_79 rfl bf262_127 bf262_82 rfl rfl rfl
theorem bk262_127 {w : am_Wd} {l0 : Nat} {l3 : Nat} {l4 : Int32} : am_run 262 127 [some (.ref l0), none, none, some (.ref l3), some (.int l4), none, none] [] w = (am_x 211 [.ref l3, .int l4] w).bind fun r => bct r fun v w' => am_run 262 134 [some (.ref l0), none, none, some (.ref l3), some (.int l4), none, none] (v.toList ++ [.ref l3]) w' := by
  refine (bu (ls'' := [some (.ref l0), none, none, some (.ref l3), some (.int l4), none, none]) (st' := [.ref l3]) bf262_127 bf262_128 rfl rfl).trans ?_
  refine (bu (ls'' := [some (.ref l0), none, none, some (.ref l3), some (.int l4), none, none]) (st' := [.ref l3, .ref l3]) bf262_128 bf262_129 rfl rfl).trans ?_
  refine (bu (ls'' := [some (.ref l0), none, none, some (.ref l3), some (.int l4), none, none]) (st' := [.int l4, .ref l3, .ref l3]) bf262_129 bf262_131 rfl rfl).trans ?_
  exact bkS bf262_131 bf262_134 rfl (by decide +kernel) (Nat.le_of_ble_eq_true rfl) rfl (bhd rfl)
theorem bk262_82 {w : am_Wd} {l0 : Nat} {l3 : Nat} {l4 : Int32} {l5 : Int32} {l6 : Int32} : am_run 262 82 [some (.ref l0), none, none, some (.ref l3), some (.int l4), some (.int l5), some (.int l6)] [] w = if l5 = (-1 : Int32) then am_run 262 127 [some (.ref l0), none, none, some (.ref l3), some (.int l4), none, none] [] w else am_run 262 88 [some (.ref l0), none, none, some (.ref l3), some (.int l4), some (.int l5), some (.int l6)] [] w := by
  refine (bu (ls'' := [some (.ref l0), none, none, some (.ref l3), some (.int l4), some (.int l5), some (.int l6)]) (st' := [.int l5]) bf262_82 bf262_84 rfl rfl).trans ?_
  refine (bu (ls'' := [some (.ref l0), none, none, some (.ref l3), some (.int l4), some (.int l5), some (.int l6)]) (st' := [.int (-1 : Int32), .int l5]) bf262_84 bf262_85 rfl rfl).trans ?_
  exact bic bf262_85 rfl bf262_127 bf262_88 rfl rfl rfl
theorem bk262_134 {w : am_Wd} {l0 : Nat} {l3 : Nat} {l4 : Int32} {s0 : Nat} {s1 : Nat} : am_run 262 134 [some (.ref l0), none, none, some (.ref l3), some (.int l4), none, none] [.ref s0, .ref s1] w = (am_x 102 [.ref s1, .ref s0] w).bind fun r => bct r fun v w' => am_run 262 137 [some (.ref l0), none, none, some (.ref l3), some (.int l4), none, none] (v.toList ++ []) w' := by
  exact bkS bf262_134 bf262_137 rfl (by decide +kernel) (Nat.le_of_ble_eq_true rfl) rfl (bhd rfl)
theorem bk262_88 {w : am_Wd} {l0 : Nat} {l3 : Nat} {l4 : Int32} {l5 : Int32} {l6 : Int32} : am_run 262 88 [some (.ref l0), none, none, some (.ref l3), some (.int l4), some (.int l5), some (.int l6)] [] w = if ¬ ((bj_ishr l4 l6) &&& (nI 1)) = (nI 1) then am_run 262 117 [some (.ref l0), none, none, some (.ref l3), some (.int l4), some (.int l5), some (.int l6)] [.int (bj_irem ((l5 + (nI 3)) + l6) (nI 4)), .int (l5 / (nI 4)), .ref l3] w else am_run 262 113 [some (.ref l0), none, none, some (.ref l3), some (.int l4), some (.int l5), some (.int l6)] [.int (bj_irem ((l5 + (nI 3)) + l6) (nI 4)), .int (l5 / (nI 4)), .ref l3] w := by
  refine (bu (ls'' := [some (.ref l0), none, none, some (.ref l3), some (.int l4), some (.int l5), some (.int l6)]) (st' := [.ref l3]) bf262_88 bf262_89 rfl rfl).trans ?_
  refine (bu (ls'' := [some (.ref l0), none, none, some (.ref l3), some (.int l4), some (.int l5), some (.int l6)]) (st' := [.int l5, .ref l3]) bf262_89 bf262_91 rfl rfl).trans ?_
  refine (bu (ls'' := [some (.ref l0), none, none, some (.ref l3), some (.int l4), some (.int l5), some (.int l6)]) (st' := [.int (nI 4), .int l5, .ref l3]) bf262_91 bf262_92 rfl rfl).trans ?_
  refine (bu (ls'' := [some (.ref l0), none, none, some (.ref l3), some (.int l4), some (.int l5), some (.int l6)]) (st' := [.int (l5 / (nI 4)), .ref l3]) bf262_92 bf262_93 rfl rfl).trans ?_
  refine (bu (ls'' := [some (.ref l0), none, none, some (.ref l3), some (.int l4), some (.int l5), some (.int l6)]) (st' := [.int l5, .int (l5 / (nI 4)), .ref l3]) bf262_93 bf262_95 rfl rfl).trans ?_
  refine (bu (ls'' := [some (.ref l0), none, none, some (.ref l3), some (.int l4), some (.int l5), some (.int l6)]) (st' := [.int (nI 3), .int l5, .int (l5 / (nI 4)), .ref l3]) bf262_95 bf262_96 rfl rfl).trans ?_
  refine (bu (ls'' := [some (.ref l0), none, none, some (.ref l3), some (.int l4), some (.int l5), some (.int l6)]) (st' := [.int (l5 + (nI 3)), .int (l5 / (nI 4)), .ref l3]) bf262_96 bf262_97 rfl rfl).trans ?_
  refine (bu (ls'' := [some (.ref l0), none, none, some (.ref l3), some (.int l4), some (.int l5), some (.int l6)]) (st' := [.int l6, .int (l5 + (nI 3)), .int (l5 / (nI 4)), .ref l3]) bf262_97 bf262_99 rfl rfl).trans ?_
  refine (bu (ls'' := [some (.ref l0), none, none, some (.ref l3), some (.int l4), some (.int l5), some (.int l6)]) (st' := [.int ((l5 + (nI 3)) + l6), .int (l5 / (nI 4)), .ref l3]) bf262_99 bf262_100 rfl rfl).trans ?_
  refine (bu (ls'' := [some (.ref l0), none, none, some (.ref l3), some (.int l4), some (.int l5), some (.int l6)]) (st' := [.int (nI 4), .int ((l5 + (nI 3)) + l6), .int (l5 / (nI 4)), .ref l3]) bf262_100 bf262_101 rfl rfl).trans ?_
  refine (bu (ls'' := [some (.ref l0), none, none, some (.ref l3), some (.int l4), some (.int l5), some (.int l6)]) (st' := [.int (bj_irem ((l5 + (nI 3)) + l6) (nI 4)), .int (l5 / (nI 4)), .ref l3]) bf262_101 bf262_102 rfl rfl).trans ?_
  refine (bu (ls'' := [some (.ref l0), none, none, some (.ref l3), some (.int l4), some (.int l5), some (.int l6)]) (st' := [.int l4, .int (bj_irem ((l5 + (nI 3)) + l6) (nI 4)), .int (l5 / (nI 4)), .ref l3]) bf262_102 bf262_104 rfl rfl).trans ?_
  refine (bu (ls'' := [some (.ref l0), none, none, some (.ref l3), some (.int l4), some (.int l5), some (.int l6)]) (st' := [.int l6, .int l4, .int (bj_irem ((l5 + (nI 3)) + l6) (nI 4)), .int (l5 / (nI 4)), .ref l3]) bf262_104 bf262_106 rfl rfl).trans ?_
  refine (bu (ls'' := [some (.ref l0), none, none, some (.ref l3), some (.int l4), some (.int l5), some (.int l6)]) (st' := [.int (bj_ishr l4 l6), .int (bj_irem ((l5 + (nI 3)) + l6) (nI 4)), .int (l5 / (nI 4)), .ref l3]) bf262_106 bf262_107 rfl rfl).trans ?_
  refine (bu (ls'' := [some (.ref l0), none, none, some (.ref l3), some (.int l4), some (.int l5), some (.int l6)]) (st' := [.int (nI 1), .int (bj_ishr l4 l6), .int (bj_irem ((l5 + (nI 3)) + l6) (nI 4)), .int (l5 / (nI 4)), .ref l3]) bf262_107 bf262_108 rfl rfl).trans ?_
  refine (bu (ls'' := [some (.ref l0), none, none, some (.ref l3), some (.int l4), some (.int l5), some (.int l6)]) (st' := [.int ((bj_ishr l4 l6) &&& (nI 1)), .int (bj_irem ((l5 + (nI 3)) + l6) (nI 4)), .int (l5 / (nI 4)), .ref l3]) bf262_108 bf262_109 rfl rfl).trans ?_
  refine (bu (ls'' := [some (.ref l0), none, none, some (.ref l3), some (.int l4), some (.int l5), some (.int l6)]) (st' := [.int (nI 1), .int ((bj_ishr l4 l6) &&& (nI 1)), .int (bj_irem ((l5 + (nI 3)) + l6) (nI 4)), .int (l5 / (nI 4)), .ref l3]) bf262_109 bf262_110 rfl rfl).trans ?_
  exact bic bf262_110 rfl bf262_117 bf262_113 rfl rfl rfl
theorem bk262_137 {w : am_Wd} {l0 : Nat} {l3 : Nat} {l4 : Int32} : am_run 262 137 [some (.ref l0), none, none, some (.ref l3), some (.int l4), none, none] [] w = (am_kf w l0 11).bind fun _ => (am_x 46 [.ref l0, .ref l3] w).bind fun r => bct r fun v w' => am_run 262 142 [none, none, none, none, some (.int l4), none, none] (v.toList ++ []) w' := by
  refine (bu (ls'' := [none, none, none, some (.ref l3), some (.int l4), none, none]) (st' := [.ref l0]) bf262_137 bf262_138 rfl rfl).trans ?_
  refine (bu (ls'' := [none, none, none, none, some (.int l4), none, none]) (st' := [.ref l3, .ref l0]) bf262_138 bf262_139 rfl rfl).trans ?_
  exact bkV bf262_139 bf262_142 rfl (by decide +kernel) (Nat.le_of_ble_eq_true rfl) rfl (bhd rfl)
theorem bk262_117 {w : am_Wd} {l0 : Nat} {l3 : Nat} {l4 : Int32} {l5 : Int32} {l6 : Int32} {s0 : Int32} {s1 : Int32} {s2 : Nat} : am_run 262 117 [some (.ref l0), none, none, some (.ref l3), some (.int l4), some (.int l5), some (.int l6)] [.int s0, .int s1, .ref s2] w = am_run 262 118 [some (.ref l0), none, none, some (.ref l3), some (.int l4), some (.int l5), some (.int l6)] [.int (nI 0), .int s0, .int s1, .ref s2] w := by
  refine (bu (ls'' := [some (.ref l0), none, none, some (.ref l3), some (.int l4), some (.int l5), some (.int l6)]) (st' := [.int (nI 0), .int s0, .int s1, .ref s2]) bf262_117 bf262_118 rfl rfl).trans ?_
  rfl
theorem bk262_113 {w : am_Wd} {l0 : Nat} {l3 : Nat} {l4 : Int32} {l5 : Int32} {l6 : Int32} {s0 : Int32} {s1 : Int32} {s2 : Nat} : am_run 262 113 [some (.ref l0), none, none, some (.ref l3), some (.int l4), some (.int l5), some (.int l6)] [.int s0, .int s1, .ref s2] w = am_run 262 118 [some (.ref l0), none, none, some (.ref l3), some (.int l4), some (.int l5), some (.int l6)] [.int (nI 1), .int s0, .int s1, .ref s2] w := by
  refine (bu (ls'' := [some (.ref l0), none, none, some (.ref l3), some (.int l4), some (.int l5), some (.int l6)]) (st' := [.int (nI 1), .int s0, .int s1, .ref s2]) bf262_113 bf262_114 rfl rfl).trans ?_
  refine (bu (ls'' := [some (.ref l0), none, none, some (.ref l3), some (.int l4), some (.int l5), some (.int l6)]) (st' := [.int (nI 1), .int s0, .int s1, .ref s2]) bf262_114 bf262_118 rfl rfl).trans ?_
  rfl
theorem bk262_142 {w : am_Wd} {l4 : Int32} : am_run 262 142 [none, none, none, none, some (.int l4), none, none] [] w = some (.inl (some (.int l4)), w) := by
  refine (bu (ls'' := [none, none, none, none, none, none, none]) (st' := [.int l4]) bf262_142 bf262_144 rfl rfl).trans ?_
  exact am_e2 bf262_144 rfl (am_ge_rf w)
theorem bk262_118 {w : am_Wd} {l0 : Nat} {l3 : Nat} {l4 : Int32} {l5 : Int32} {l6 : Int32} {s0 : Int32} {s1 : Int32} {s2 : Int32} {s3 : Nat} : am_run 262 118 [some (.ref l0), none, none, some (.ref l3), some (.int l4), some (.int l5), some (.int l6)] [.int s0, .int s1, .int s2, .ref s3] w = (am_x 175 [.ref s3, .int s2, .int s1, .int s0] w).bind fun r => bct r fun v w' => am_run 262 121 [some (.ref l0), none, none, some (.ref l3), some (.int l4), some (.int l5), some (.int l6)] (v.toList ++ []) w' := by
  exact bkS bf262_118 bf262_121 rfl (by decide +kernel) (Nat.le_of_ble_eq_true rfl) rfl (bhd rfl)
theorem bk262_121 {w : am_Wd} {l0 : Nat} {l3 : Nat} {l4 : Int32} {l5 : Int32} {l6 : Int32} : am_run 262 121 [some (.ref l0), none, none, some (.ref l3), some (.int l4), some (.int l5), some (.int l6)] [] w = am_run 262 76 [some (.ref l0), none, none, some (.ref l3), some (.int l4), some (.int l5), some (.int (l6 + (nI 1)))] [] w := by
  refine (bu (ls'' := [some (.ref l0), none, none, some (.ref l3), some (.int l4), some (.int l5), some (.int (l6 + (nI 1)))]) (st' := []) bf262_121 bf262_124 rfl rfl).trans ?_
  refine (bu (ls'' := [some (.ref l0), none, none, some (.ref l3), some (.int l4), some (.int l5), some (.int (l6 + (nI 1)))]) (st' := []) bf262_124 bf262_76 rfl rfl).trans ?_
  rfl
theorem bf263_0 : am_fetch (am_mth 263) 0 = some (.aload_n 0, 1, [], [3, 4, 5, 6]) := by decide +kernel
theorem bf263_1 : am_fetch (am_mth 263) 1 = some (.aload_n 0, 1, [], [3, 4, 5, 6]) := by decide +kernel
theorem bf263_2 : am_fetch (am_mth 263) 2 = some (.iload_n 1, 1, [], [3, 4, 5, 6]) := by decide +kernel
theorem bf263_3 : am_fetch (am_mth 263) 3 = some (.invokevirtual 149, 3, [0, 99, 1, 11, 1387, 1389, 24, 48], [3, 4, 5, 6]) := by decide +kernel
theorem bf263_6 : am_fetch (am_mth 263) 6 = some (.iconst 1, 1, [], [3, 4, 5, 6]) := by decide +kernel
theorem bf263_7 : am_fetch (am_mth 263) 7 = some (.invokevirtual 83, 3, [0, 96, 2, 11, 1251, 1253, 18, 48], [3, 4, 5, 6]) := by decide +kernel
theorem bf263_10 : am_fetch (am_mth 263) 10 = some (.ifCond .ne 27, 3, [], [3, 4, 5, 6]) := by decide +kernel
theorem bf263_13 : am_fetch (am_mth 263) 13 = some (.aload_n 0, 1, [], [3, 4, 5, 6]) := by decide +kernel
theorem bf263_14 : am_fetch (am_mth 263) 14 = some (.aload_n 0, 1, [], [3, 4, 5, 6]) := by decide +kernel
theorem bf263_15 : am_fetch (am_mth 263) 15 = some (.aload_n 0, 1, [], [3, 4, 5, 6]) := by decide +kernel
theorem bf263_16 : am_fetch (am_mth 263) 16 = some (.getfield 31, 3, [0, 11, 11, 1208], [3, 4, 5, 6]) := by decide +kernel
theorem bf263_19 : am_fetch (am_mth 263) 19 = some (.iload_n 1, 1, [], [3, 4, 5, 6]) := by decide +kernel
theorem bf263_20 : am_fetch (am_mth 263) 20 = some (.invokevirtual 152, 3, [0, 150, 1, 3, 1391, 1392, 1393, 51], [3, 4, 5, 6]) := by decide +kernel
theorem bf263_23 : am_fetch (am_mth 263) 23 = some (.checkcast 72, 3, [0, 10, 1295], [3, 4, 5, 6]) := by decide +kernel
theorem bf263_26 : am_fetch (am_mth 263) 26 = some (.iload_n 2, 1, [], [3, 4, 5, 6]) := by decide +kernel
theorem bf263_27 : am_fetch (am_mth 263) 27 = some (.invokevirtual 156, 3, [0, 258, 2, 11, 1411, 1413, 25, 48], [2, 3, 4, 5, 6]) := by decide +kernel
theorem bf263_30 : am_fetch (am_mth 263) 30 = some (.iconst 2, 1, [], [2, 3, 4, 5, 6]) := by decide +kernel
theorem bf263_31 : am_fetch (am_mth 263) 31 = some (.invokevirtual 38, 3, [0, 40, 2, 11, 1255, 1257, 19, 48], [2, 3, 4, 5, 6]) := by decide +kernel
theorem bf263_34 : am_fetch (am_mth 263) 34 = some (.ifCond .eq 5, 3, [], [2, 3, 4, 5, 6]) := by decide +kernel
theorem bf263_37 : am_fetch (am_mth 263) 37 = some (.iconst 0, 1, [], [0, 1, 2, 3, 4, 5, 6]) := by decide +kernel
theorem bf263_38 : am_fetch (am_mth 263) 38 = some (.ireturn, 1, [0], [0, 1, 2, 3, 4, 5, 6]) := by decide +kernel
theorem bf263_39 : am_fetch (am_mth 263) 39 = some (.aload_n 0, 1, [], [2, 3, 4, 5, 6]) := by decide +kernel
theorem bf263_40 : am_fetch (am_mth 263) 40 = some (.getfield 31, 3, [0, 11, 11, 1208], [2, 3, 4, 5, 6]) := by decide +kernel
theorem bf263_43 : am_fetch (am_mth 263) 43 = some (.iload_n 1, 1, [], [2, 3, 4, 5, 6]) := by decide +kernel
theorem bf263_44 : am_fetch (am_mth 263) 44 = some (.invokevirtual 152, 3, [0, 150, 1, 3, 1391, 1392, 1393, 51], [1, 2, 3, 4, 5, 6]) := by decide +kernel
theorem bf263_47 : am_fetch (am_mth 263) 47 = some (.checkcast 72, 3, [0, 10, 1295], [1, 2, 3, 4, 5, 6]) := by decide +kernel
theorem bf263_50 : am_fetch (am_mth 263) 50 = some (.astore_n 3, 1, [], [1, 2, 3, 4, 5, 6]) := by decide +kernel
theorem bf263_51 : am_fetch (am_mth 263) 51 = some (.iconst 0, 1, [], [1, 2, 4, 5, 6]) := by decide +kernel
theorem bf263_52 : am_fetch (am_mth 263) 52 = some (.istore 4, 2, [], [1, 2, 4, 5, 6]) := by decide +kernel
theorem bf263_54 : am_fetch (am_mth 263) 54 = some (.aload_n 0, 1, [], [1, 2, 5, 6]) := by decide +kernel
theorem bf263_55 : am_fetch (am_mth 263) 55 = some (.getfield 31, 3, [0, 11, 11, 1208], [1, 2, 5, 6]) := by decide +kernel
theorem bf263_58 : am_fetch (am_mth 263) 58 = some (.invokevirtual 200, 3, [0, 105, 0, 3, 1486, 1487, 1488, 51], [1, 2, 5, 6]) := by decide +kernel
theorem bf263_61 : am_fetch (am_mth 263) 61 = some (.astore 5, 2, [], [1, 2, 5, 6]) := by decide +kernel
theorem bf263_63 : am_fetch (am_mth 263) 63 = some (.aload 5, 2, [], [1, 2, 6]) := by decide +kernel
theorem bf263_65 : am_fetch (am_mth 263) 65 = some (.invokeinterface 204 1, 5, [0, 52, 0, 2, 1510, 1514, 1516, 72], [1, 2, 6]) := by decide +kernel
theorem bf263_70 : am_fetch (am_mth 263) 70 = some (.ifCond .eq 77, 3, [], [1, 2, 6]) := by decide +kernel
theorem bf263_73 : am_fetch (am_mth 263) 73 = some (.aload 5, 2, [], [1, 2, 6]) := by decide +kernel
theorem bf263_75 : am_fetch (am_mth 263) 75 = some (.invokeinterface 210 1, 5, [0, 103, 0, 2, 1520, 1523, 1525, 72], [1, 2, 6]) := by decide +kernel
theorem bf263_80 : am_fetch (am_mth 263) 80 = some (.checkcast 72, 3, [0, 10, 1295], [1, 2, 6]) := by decide +kernel
theorem bf263_83 : am_fetch (am_mth 263) 83 = some (.astore 6, 2, [], [1, 2, 6]) := by decide +kernel
theorem bf263_85 : am_fetch (am_mth 263) 85 = some (.iload 4, 2, [], [1, 2]) := by decide +kernel
theorem bf263_87 : am_fetch (am_mth 263) 87 = some (.aload 6, 2, [], [1, 2, 4]) := by decide +kernel
theorem bf263_89 : am_fetch (am_mth 263) 89 = some (.aload_n 3, 1, [], [1, 2, 4]) := by decide +kernel
theorem bf263_90 : am_fetch (am_mth 263) 90 = some (.if_acmp .eq 50, 3, [], [1, 2, 4]) := by decide +kernel
theorem bf263_93 : am_fetch (am_mth 263) 93 = some (.aload 6, 2, [], [1, 2, 4]) := by decide +kernel
theorem bf263_95 : am_fetch (am_mth 263) 95 = some (.invokevirtual 160, 3, [0, 38, 0, 10, 1434, 1435, 1436, 66], [1, 2, 4]) := by decide +kernel
theorem bf263_98 : am_fetch (am_mth 263) 98 = some (.bipush 6, 2, [], [1, 2, 4]) := by decide +kernel
theorem bf263_100 : am_fetch (am_mth 263) 100 = some (.idiv, 1, [], [1, 2, 4]) := by decide +kernel
theorem bf263_101 : am_fetch (am_mth 263) 101 = some (.aload_n 3, 1, [], [1, 2, 4]) := by decide +kernel
theorem bf263_102 : am_fetch (am_mth 263) 102 = some (.invokevirtual 160, 3, [0, 38, 0, 10, 1434, 1435, 1436, 66], [1, 2, 4]) := by decide +kernel
theorem bf263_105 : am_fetch (am_mth 263) 105 = some (.bipush 6, 2, [], [1, 2, 4]) := by decide +kernel
theorem bf263_107 : am_fetch (am_mth 263) 107 = some (.idiv, 1, [], [1, 2, 4]) := by decide +kernel
theorem bf263_108 : am_fetch (am_mth 263) 108 = some (.isub, 1, [], [1, 2, 4]) := by decide +kernel
theorem bf263_109 : am_fetch (am_mth 263) 109 = some (.invokestatic 214, 3, [3, 1532, 768, 59, 769], [1, 2, 4]) := by decide +kernel
theorem bf263_112 : am_fetch (am_mth 263) 112 = some (.aload 6, 2, [], [1, 2, 4]) := by decide +kernel
theorem bf263_114 : am_fetch (am_mth 263) 114 = some (.invokevirtual 160, 3, [0, 38, 0, 10, 1434, 1435, 1436, 66], [1, 2, 4, 6]) := by decide +kernel
theorem bf263_117 : am_fetch (am_mth 263) 117 = some (.bipush 6, 2, [], [1, 2, 4, 6]) := by decide +kernel
theorem bf263_119 : am_fetch (am_mth 263) 119 = some (.irem, 1, [], [1, 2, 4, 6]) := by decide +kernel
theorem bf263_120 : am_fetch (am_mth 263) 120 = some (.aload_n 3, 1, [], [1, 2, 4, 6]) := by decide +kernel
theorem bf263_121 : am_fetch (am_mth 263) 121 = some (.invokevirtual 160, 3, [0, 38, 0, 10, 1434, 1435, 1436, 66], [1, 2, 4, 6]) := by decide +kernel
theorem bf263_124 : am_fetch (am_mth 263) 124 = some (.bipush 6, 2, [], [1, 2, 4, 6]) := by decide +kernel
theorem bf263_126 : am_fetch (am_mth 263) 126 = some (.irem, 1, [], [1, 2, 4, 6]) := by decide +kernel
theorem bf263_127 : am_fetch (am_mth 263) 127 = some (.isub, 1, [], [1, 2, 4, 6]) := by decide +kernel
theorem bf263_128 : am_fetch (am_mth 263) 128 = some (.invokestatic 214, 3, [3, 1532, 768, 59, 769], [1, 2, 4, 6]) := by decide +kernel
theorem bf263_131 : am_fetch (am_mth 263) 131 = some (.iadd, 1, [], [1, 2, 4, 6]) := by decide +kernel
theorem bf263_132 : am_fetch (am_mth 263) 132 = some (.iconst 2, 1, [], [1, 2, 4, 6]) := by decide +kernel
theorem bf263_133 : am_fetch (am_mth 263) 133 = some (.if_icmp .gt 7, 3, [], [1, 2, 4, 6]) := by decide +kernel
theorem bf263_136 : am_fetch (am_mth 263) 136 = some (.iconst 1, 1, [], [1, 2, 4, 6]) := by decide +kernel
theorem bf263_137 : am_fetch (am_mth 263) 137 = some (.goto 4, 3, [], [1, 2, 4, 6]) := by decide +kernel
theorem bf263_140 : am_fetch (am_mth 263) 140 = some (.iconst 0, 1, [], [1, 2, 4, 6]) := by decide +kernel
theorem bf263_141 : am_fetch (am_mth 263) 141 = some (.iadd, 1, [], [1, 2, 4, 6]) := by decide +kernel
theorem bf263_142 : am_fetch (am_mth 263) 142 = some (.istore 4, 2, [], [1, 2, 4, 6]) := by decide +kernel
theorem bf263_144 : am_fetch (am_mth 263) 144 = some (.goto (-81), 3, [], [1, 2, 6]) := by decide +kernel
theorem bf263_147 : am_fetch (am_mth 263) 147 = some (.aload_n 0, 1, [], [1, 2, 5, 6]) := by decide +kernel
theorem bf263_148 : am_fetch (am_mth 263) 148 = some (.aload_n 3, 1, [], [0, 1, 2, 5, 6]) := by decide +kernel
theorem bf263_149 : am_fetch (am_mth 263) 149 = some (.invokevirtual 187, 3, [0, 46, 1, 11, 1460, 1462, 33, 48], [0, 1, 2, 3, 5, 6]) := by decide +kernel
theorem bf263_152 : am_fetch (am_mth 263) 152 = some (.iload 4, 2, [], [0, 1, 2, 3, 5, 6]) := by decide +kernel
theorem bf263_154 : am_fetch (am_mth 263) 154 = some (.ireturn, 1, [0], [0, 1, 2, 3, 4, 5, 6]) := by decide +kernel
theorem bk263_0 {w : am_Wd} {l0 : Nat} {l1 : Int32} {l2 : Int32} : am_run 263 0 [some (.ref l0), some (.int l1), some (.int l2), none, none, none, none] [] w = (am_kf w l0 11).bind fun _ => (am_x 99 [.ref l0, .int l1] w).bind fun r => bct r fun v w' => am_run 263 6 [some (.ref l0), some (.int l1), some (.int l2), none, none, none, none] (v.toList ++ [.ref l0]) w' := by
  refine (bu (ls'' := [some (.ref l0), some (.int l1), some (.int l2), none, none, none, none]) (st' := [.ref l0]) bf263_0 bf263_1 rfl rfl).trans ?_
  refine (bu (ls'' := [some (.ref l0), some (.int l1), some (.int l2), none, none, none, none]) (st' := [.ref l0, .ref l0]) bf263_1 bf263_2 rfl rfl).trans ?_
  refine (bu (ls'' := [some (.ref l0), some (.int l1), some (.int l2), none, none, none, none]) (st' := [.int l1, .ref l0, .ref l0]) bf263_2 bf263_3 rfl rfl).trans ?_
  exact bkV bf263_3 bf263_6 rfl (by decide +kernel) (Nat.le_of_ble_eq_true rfl) rfl (bhd rfl)
theorem bk263_6 {w : am_Wd} {l0 : Nat} {l1 : Int32} {l2 : Int32} {s0 : Int32} {s1 : Nat} : am_run 263 6 [some (.ref l0), some (.int l1), some (.int l2), none, none, none, none] [.int s0, .ref s1] w = (am_kf w s1 11).bind fun _ => (am_x 96 [.ref s1, .int s0, .int (nI 1)] w).bind fun r => bct r fun v w' => am_run 263 10 [some (.ref l0), some (.int l1), some (.int l2), none, none, none, none] (v.toList ++ []) w' := by
  refine (bu (ls'' := [some (.ref l0), some (.int l1), some (.int l2), none, none, none, none]) (st' := [.int (nI 1), .int s0, .ref s1]) bf263_6 bf263_7 rfl rfl).trans ?_
  exact bkV bf263_7 bf263_10 rfl (by decide +kernel) (Nat.le_of_ble_eq_true rfl) rfl (bhd rfl)
theorem bk263_10 {w : am_Wd} {l0 : Nat} {l1 : Int32} {l2 : Int32} {s0 : Int32} : am_run 263 10 [some (.ref l0), some (.int l1), some (.int l2), none, none, none, none] [.int s0] w = if ¬ s0 = nI 0 then am_run 263 37 [none, none, none, none, none, none, none] [] w else am_run 263 13 [some (.ref l0), some (.int l1), some (.int l2), none, none, none, none] [] w := by
  exact bifc bf263_10 rfl bf263_37 bf263_13 rfl rfl rfl
theorem bk263_37 {w : am_Wd}  : am_run 263 37 [none, none, none, none, none, none, none] [] w = some (.inl (some (.int (nI 0))), w) := by
  refine (bu (ls'' := [none, none, none, none, none, none, none]) (st' := [.int (nI 0)]) bf263_37 bf263_38 rfl rfl).trans ?_
  exact am_e2 bf263_38 rfl (am_ge_rf w)
theorem bk263_13 {w : am_Wd} {l0 : Nat} {l1 : Int32} {l2 : Int32} : am_run 263 13 [some (.ref l0), some (.int l1), some (.int l2), none, none, none, none] [] w = (am_gf w l0 11 11).bind fun v => am_run 263 19 [some (.ref l0), some (.int l1), some (.int l2), none, none, none, none] (v :: [.ref l0, .ref l0]) w := by
  refine (bu (ls'' := [some (.ref l0), some (.int l1), some (.int l2), none, none, none, none]) (st' := [.ref l0]) bf263_13 bf263_14 rfl rfl).trans ?_
  refine (bu (ls'' := [some (.ref l0), some (.int l1), some (.int l2), none, none, none, none]) (st' := [.ref l0, .ref l0]) bf263_14 bf263_15 rfl rfl).trans ?_
  refine (bu (ls'' := [some (.ref l0), some (.int l1), some (.int l2), none, none, none, none]) (st' := [.ref l0, .ref l0, .ref l0]) bf263_15 bf263_16 rfl rfl).trans ?_
  exact bh bf263_16 bf263_19 rfl (fun _ _ => am_ge_rf w) rfl
theorem bk263_19 {w : am_Wd} {l0 : Nat} {l1 : Int32} {l2 : Int32} {s0 : Nat} {s1 : Nat} {s2 : Nat} : am_run 263 19 [some (.ref l0), some (.int l1), some (.int l2), none, none, none, none] [.ref s0, .ref s1, .ref s2] w = (am_kf w s0 3).bind fun _ => (am_x 150 [.ref s0, .int l1] w).bind fun r => bct r fun v w' => am_run 263 23 [some (.ref l0), some (.int l1), some (.int l2), none, none, none, none] (v.toList ++ [.ref s1, .ref s2]) w' := by
  refine (bu (ls'' := [some (.ref l0), some (.int l1), some (.int l2), none, none, none, none]) (st' := [.int l1, .ref s0, .ref s1, .ref s2]) bf263_19 bf263_20 rfl rfl).trans ?_
  exact bkV bf263_20 bf263_23 rfl (by decide +kernel) (Nat.le_of_ble_eq_true rfl) rfl (bhd rfl)
theorem bk263_23 {w : am_Wd} {l0 : Nat} {l1 : Int32} {l2 : Int32} {s0 : Nat} {s1 : Nat} {s2 : Nat} : am_run 263 23 [some (.ref l0), some (.int l1), some (.int l2), none, none, none, none] [.ref s0, .ref s1, .ref s2] w = (am_kf w s0 10).bind fun _ => am_run 263 26 [some (.ref l0), some (.int l1), some (.int l2), none, none, none, none] [.ref s0, .ref s1, .ref s2] w := by
  exact bh bf263_23 bf263_26 rfl (fun _ _ => am_ge_rf w) rfl
theorem bk263_26 {w : am_Wd} {l0 : Nat} {l1 : Int32} {l2 : Int32} {s0 : Nat} {s1 : Nat} {s2 : Nat} : am_run 263 26 [some (.ref l0), some (.int l1), some (.int l2), none, none, none, none] [.ref s0, .ref s1, .ref s2] w = (am_kf w s1 11).bind fun _ => (am_x 258 [.ref s1, .ref s0, .int l2] w).bind fun r => bct r fun v w' => am_run 263 30 [some (.ref l0), some (.int l1), none, none, none, none, none] (v.toList ++ [.ref s2]) w' := by
  refine (bu (ls'' := [some (.ref l0), some (.int l1), none, none, none, none, none]) (st' := [.int l2, .ref s0, .ref s1, .ref s2]) bf263_26 bf263_27 rfl rfl).trans ?_
  exact bkV bf263_27 bf263_30 rfl (by decide +kernel) (Nat.le_of_ble_eq_true rfl) rfl (bhd rfl)
theorem bk263_30 {w : am_Wd} {l0 : Nat} {l1 : Int32} {s0 : Int32} {s1 : Nat} : am_run 263 30 [some (.ref l0), some (.int l1), none, none, none, none, none] [.int s0, .ref s1] w = (am_kf w s1 11).bind fun _ => (am_x 40 [.ref s1, .int s0, .int (nI 2)] w).bind fun r => bct r fun v w' => am_run 263 34 [some (.ref l0), some (.int l1), none, none, none, none, none] (v.toList ++ []) w' := by
  refine (bu (ls'' := [some (.ref l0), some (.int l1), none, none, none, none, none]) (st' := [.int (nI 2), .int s0, .ref s1]) bf263_30 bf263_31 rfl rfl).trans ?_
  exact bkV bf263_31 bf263_34 rfl (by decide +kernel) (Nat.le_of_ble_eq_true rfl) rfl (bhd rfl)
theorem bk263_34 {w : am_Wd} {l0 : Nat} {l1 : Int32} {s0 : Int32} : am_run 263 34 [some (.ref l0), some (.int l1), none, none, none, none, none] [.int s0] w = if s0 = nI 0 then am_run 263 39 [some (.ref l0), some (.int l1), none, none, none, none, none] [] w else am_run 263 37 [none, none, none, none, none, none, none] [] w := by
  exact bifc bf263_34 rfl bf263_39 bf263_37 rfl rfl rfl
theorem bk263_39 {w : am_Wd} {l0 : Nat} {l1 : Int32} : am_run 263 39 [some (.ref l0), some (.int l1), none, none, none, none, none] [] w = (am_gf w l0 11 11).bind fun v => am_run 263 43 [some (.ref l0), some (.int l1), none, none, none, none, none] (v :: []) w := by
  refine (bu (ls'' := [some (.ref l0), some (.int l1), none, none, none, none, none]) (st' := [.ref l0]) bf263_39 bf263_40 rfl rfl).trans ?_
  exact bh bf263_40 bf263_43 rfl (fun _ _ => am_ge_rf w) rfl
theorem bk263_43 {w : am_Wd} {l0 : Nat} {l1 : Int32} {s0 : Nat} : am_run 263 43 [some (.ref l0), some (.int l1), none, none, none, none, none] [.ref s0] w = (am_kf w s0 3).bind fun _ => (am_x 150 [.ref s0, .int l1] w).bind fun r => bct r fun v w' => am_run 263 47 [some (.ref l0), none, none, none, none, none, none] (v.toList ++ []) w' := by
  refine (bu (ls'' := [some (.ref l0), none, none, none, none, none, none]) (st' := [.int l1, .ref s0]) bf263_43 bf263_44 rfl rfl).trans ?_
  exact bkV bf263_44 bf263_47 rfl (by decide +kernel) (Nat.le_of_ble_eq_true rfl) rfl (bhd rfl)
theorem bk263_47 {w : am_Wd} {l0 : Nat} {s0 : Nat} : am_run 263 47 [some (.ref l0), none, none, none, none, none, none] [.ref s0] w = (am_kf w s0 10).bind fun _ => am_run 263 50 [some (.ref l0), none, none, none, none, none, none] [.ref s0] w := by
  exact bh bf263_47 bf263_50 rfl (fun _ _ => am_ge_rf w) rfl
theorem bk263_50 {w : am_Wd} {l0 : Nat} {s0 : Nat} : am_run 263 50 [some (.ref l0), none, none, none, none, none, none] [.ref s0] w = (am_gf w l0 11 11).bind fun v => am_run 263 58 [some (.ref l0), none, none, some (.ref s0), some (.int (nI 0)), none, none] (v :: []) w := by
  refine (bu (ls'' := [some (.ref l0), none, none, some (.ref s0), none, none, none]) (st' := []) bf263_50 bf263_51 rfl rfl).trans ?_
  refine (bu (ls'' := [some (.ref l0), none, none, some (.ref s0), none, none, none]) (st' := [.int (nI 0)]) bf263_51 bf263_52 rfl rfl).trans ?_
  refine (bu (ls'' := [some (.ref l0), none, none, some (.ref s0), some (.int (nI 0)), none, none]) (st' := []) bf263_52 bf263_54 rfl rfl).trans ?_
  refine (bu (ls'' := [some (.ref l0), none, none, some (.ref s0), some (.int (nI 0)), none, none]) (st' := [.ref l0]) bf263_54 bf263_55 rfl rfl).trans ?_
  exact bh bf263_55 bf263_58 rfl (fun _ _ => am_ge_rf w) rfl
theorem bk263_58 {w : am_Wd} {l0 : Nat} {l3 : Nat} {l4 : Int32} {s0 : Nat} : am_run 263 58 [some (.ref l0), none, none, some (.ref l3), some (.int l4), none, none] [.ref s0] w = (am_kf w s0 3).bind fun _ => (am_x 105 [.ref s0] w).bind fun r => bct r fun v w' => am_run 263 61 [some (.ref l0), none, none, some (.ref l3), some (.int l4), none, none] (v.toList ++ []) w' := by
  exact bkV bf263_58 bf263_61 rfl (by decide +kernel) (Nat.le_of_ble_eq_true rfl) rfl (bhd rfl)
theorem bk263_61 {w : am_Wd} {l0 : Nat} {l3 : Nat} {l4 : Int32} {s0 : Nat} : am_run 263 61 [some (.ref l0), none, none, some (.ref l3), some (.int l4), none, none] [.ref s0] w = am_run 263 63 [some (.ref l0), none, none, some (.ref l3), some (.int l4), some (.ref s0), none] [] w := by
  refine (bu (ls'' := [some (.ref l0), none, none, some (.ref l3), some (.int l4), some (.ref s0), none]) (st' := []) bf263_61 bf263_63 rfl rfl).trans ?_
  rfl
theorem bk263_63 {w : am_Wd} {l0 : Nat} {l3 : Nat} {l4 : Int32} {l5 : Nat} : am_run 263 63 [some (.ref l0), none, none, some (.ref l3), some (.int l4), some (.ref l5), none] [] w = (am_kf w l5 2).bind fun _ => (am_x 52 [.ref l5] w).bind fun r => bct r fun v w' => am_run 263 70 [some (.ref l0), none, none, some (.ref l3), some (.int l4), some (.ref l5), none] (v.toList ++ []) w' := by
  refine (bu (ls'' := [some (.ref l0), none, none, some (.ref l3), some (.int l4), some (.ref l5), none]) (st' := [.ref l5]) bf263_63 bf263_65 rfl rfl).trans ?_
  exact bkV bf263_65 bf263_70 rfl (by decide +kernel) (Nat.le_of_ble_eq_true rfl) rfl (bhd rfl)
theorem bk263_70 {w : am_Wd} {l0 : Nat} {l3 : Nat} {l4 : Int32} {l5 : Nat} {s0 : Int32} : am_run 263 70 [some (.ref l0), none, none, some (.ref l3), some (.int l4), some (.ref l5), none] [.int s0] w = if s0 = nI 0 then am_run 263 147 [some (.ref l0), none, none, some (.ref l3), some (.int l4), none, none] [] w else am_run 263 73 [some (.ref l0), none, none, some (.ref l3), some (.int l4), some (.ref l5), none] [] w := by
  exact bifc bf263_70 rfl bf263_147 bf263_73 rfl rfl rfl
theorem bk263_147 {w : am_Wd} {l0 : Nat} {l3 : Nat} {l4 : Int32} : am_run 263 147 [some (.ref l0), none, none, some (.ref l3), some (.int l4), none, none] [] w = (am_kf w l0 11).bind fun _ => (am_x 46 [.ref l0, .ref l3] w).bind fun r => bct r fun v w' => am_run 263 152 [none, none, none, none, some (.int l4), none, none] (v.toList ++ []) w' := by
  refine (bu (ls'' := [none, none, none, some (.ref l3), some (.int l4), none, none]) (st' := [.ref l0]) bf263_147 bf263_148 rfl rfl).trans ?_
  refine (bu (ls'' := [none, none, none, none, some (.int l4), none, none]) (st' := [.ref l3, .ref l0]) bf263_148 bf263_149 rfl rfl).trans ?_
  exact bkV bf263_149 bf263_152 rfl (by decide +kernel) (Nat.le_of_ble_eq_true rfl) rfl (bhd rfl)
theorem bk263_73 {w : am_Wd} {l0 : Nat} {l3 : Nat} {l4 : Int32} {l5 : Nat} : am_run 263 73 [some (.ref l0), none, none, some (.ref l3), some (.int l4), some (.ref l5), none] [] w = (am_kf w l5 2).bind fun _ => (am_x 103 [.ref l5] w).bind fun r => bct r fun v w' => am_run 263 80 [some (.ref l0), none, none, some (.ref l3), some (.int l4), some (.ref l5), none] (v.toList ++ []) w' := by
  refine (bu (ls'' := [some (.ref l0), none, none, some (.ref l3), some (.int l4), some (.ref l5), none]) (st' := [.ref l5]) bf263_73 bf263_75 rfl rfl).trans ?_
  exact bkV bf263_75 bf263_80 rfl (by decide +kernel) (Nat.le_of_ble_eq_true rfl) rfl (bhd rfl)
theorem bk263_152 {w : am_Wd} {l4 : Int32} : am_run 263 152 [none, none, none, none, some (.int l4), none, none] [] w = some (.inl (some (.int l4)), w) := by
  refine (bu (ls'' := [none, none, none, none, none, none, none]) (st' := [.int l4]) bf263_152 bf263_154 rfl rfl).trans ?_
  exact am_e2 bf263_154 rfl (am_ge_rf w)
theorem bk263_80 {w : am_Wd} {l0 : Nat} {l3 : Nat} {l4 : Int32} {l5 : Nat} {s0 : Nat} : am_run 263 80 [some (.ref l0), none, none, some (.ref l3), some (.int l4), some (.ref l5), none] [.ref s0] w = (am_kf w s0 10).bind fun _ => am_run 263 83 [some (.ref l0), none, none, some (.ref l3), some (.int l4), some (.ref l5), none] [.ref s0] w := by
  exact bh bf263_80 bf263_83 rfl (fun _ _ => am_ge_rf w) rfl
theorem bk263_83 {w : am_Wd} {l0 : Nat} {l3 : Nat} {l4 : Int32} {l5 : Nat} {s0 : Nat} : am_run 263 83 [some (.ref l0), none, none, some (.ref l3), some (.int l4), some (.ref l5), none] [.ref s0] w = if s0 = l3 then am_run 263 140 [some (.ref l0), none, none, some (.ref l3), none, some (.ref l5), none] [.int l4] w else am_run 263 93 [some (.ref l0), none, none, some (.ref l3), none, some (.ref l5), some (.ref s0)] [.int l4] w := by
  refine (bu (ls'' := [some (.ref l0), none, none, some (.ref l3), some (.int l4), some (.ref l5), some (.ref s0)]) (st' := []) bf263_83 bf263_85 rfl rfl).trans ?_
  refine (bu (ls'' := [some (.ref l0), none, none, some (.ref l3), none, some (.ref l5), some (.ref s0)]) (st' := [.int l4]) bf263_85 bf263_87 rfl rfl).trans ?_
  refine (bu (ls'' := [some (.ref l0), none, none, some (.ref l3), none, some (.ref l5), some (.ref s0)]) (st' := [.ref s0, .int l4]) bf263_87 bf263_89 rfl rfl).trans ?_
  refine (bu (ls'' := [some (.ref l0), none, none, some (.ref l3), none, some (.ref l5), some (.ref s0)]) (st' := [.ref l3, .ref s0, .int l4]) bf263_89 bf263_90 rfl rfl).trans ?_
  exact bia bf263_90 rfl bf263_140 bf263_93 rfl rfl rfl
theorem bk263_140 {w : am_Wd} {l0 : Nat} {l3 : Nat} {l5 : Nat} {s0 : Int32} : am_run 263 140 [some (.ref l0), none, none, some (.ref l3), none, some (.ref l5), none] [.int s0] w = am_run 263 141 [some (.ref l0), none, none, some (.ref l3), none, some (.ref l5), none] [.int (nI 0), .int s0] w := by
  refine (bu (ls'' := [some (.ref l0), none, none, some (.ref l3), none, some (.ref l5), none]) (st' := [.int (nI 0), .int s0]) bf263_140 bf263_141 rfl rfl).trans ?_
  rfl
theorem bk263_93 {w : am_Wd} {l0 : Nat} {l3 : Nat} {l5 : Nat} {l6 : Nat} {s0 : Int32} : am_run 263 93 [some (.ref l0), none, none, some (.ref l3), none, some (.ref l5), some (.ref l6)] [.int s0] w = (am_kf w l6 10).bind fun _ => (am_x 38 [.ref l6] w).bind fun r => bct r fun v w' => am_run 263 98 [some (.ref l0), none, none, some (.ref l3), none, some (.ref l5), some (.ref l6)] (v.toList ++ [.int s0]) w' := by
  refine (bu (ls'' := [some (.ref l0), none, none, some (.ref l3), none, some (.ref l5), some (.ref l6)]) (st' := [.ref l6, .int s0]) bf263_93 bf263_95 rfl rfl).trans ?_
  exact bkV bf263_95 bf263_98 rfl (by decide +kernel) (Nat.le_of_ble_eq_true rfl) rfl (bhd rfl)
theorem bk263_141 {w : am_Wd} {l0 : Nat} {l3 : Nat} {l5 : Nat} {s0 : Int32} {s1 : Int32} : am_run 263 141 [some (.ref l0), none, none, some (.ref l3), none, some (.ref l5), none] [.int s0, .int s1] w = am_run 263 63 [some (.ref l0), none, none, some (.ref l3), some (.int (s1 + s0)), some (.ref l5), none] [] w := by
  refine (bu (ls'' := [some (.ref l0), none, none, some (.ref l3), none, some (.ref l5), none]) (st' := [.int (s1 + s0)]) bf263_141 bf263_142 rfl rfl).trans ?_
  refine (bu (ls'' := [some (.ref l0), none, none, some (.ref l3), some (.int (s1 + s0)), some (.ref l5), none]) (st' := []) bf263_142 bf263_144 rfl rfl).trans ?_
  refine (bu (ls'' := [some (.ref l0), none, none, some (.ref l3), some (.int (s1 + s0)), some (.ref l5), none]) (st' := []) bf263_144 bf263_63 rfl rfl).trans ?_
  rfl
theorem bk263_98 {w : am_Wd} {l0 : Nat} {l3 : Nat} {l5 : Nat} {l6 : Nat} {s0 : Int32} {s1 : Int32} : am_run 263 98 [some (.ref l0), none, none, some (.ref l3), none, some (.ref l5), some (.ref l6)] [.int s0, .int s1] w = (am_kf w l3 10).bind fun _ => (am_x 38 [.ref l3] w).bind fun r => bct r fun v w' => am_run 263 105 [some (.ref l0), none, none, some (.ref l3), none, some (.ref l5), some (.ref l6)] (v.toList ++ [.int (s0 / (nI 6)), .int s1]) w' := by
  refine (bu (ls'' := [some (.ref l0), none, none, some (.ref l3), none, some (.ref l5), some (.ref l6)]) (st' := [.int (nI 6), .int s0, .int s1]) bf263_98 bf263_100 rfl rfl).trans ?_
  refine (bu (ls'' := [some (.ref l0), none, none, some (.ref l3), none, some (.ref l5), some (.ref l6)]) (st' := [.int (s0 / (nI 6)), .int s1]) bf263_100 bf263_101 rfl rfl).trans ?_
  refine (bu (ls'' := [some (.ref l0), none, none, some (.ref l3), none, some (.ref l5), some (.ref l6)]) (st' := [.ref l3, .int (s0 / (nI 6)), .int s1]) bf263_101 bf263_102 rfl rfl).trans ?_
  exact bkV bf263_102 bf263_105 rfl (by decide +kernel) (Nat.le_of_ble_eq_true rfl) rfl (bhd rfl)
theorem bk263_105 {w : am_Wd} {l0 : Nat} {l3 : Nat} {l5 : Nat} {l6 : Nat} {s0 : Int32} {s1 : Int32} {s2 : Int32} : am_run 263 105 [some (.ref l0), none, none, some (.ref l3), none, some (.ref l5), some (.ref l6)] [.int s0, .int s1, .int s2] w = (am_kf w l6 10).bind fun _ => (am_x 38 [.ref l6] w).bind fun r => bct r fun v w' => am_run 263 117 [some (.ref l0), none, none, some (.ref l3), none, some (.ref l5), none] (v.toList ++ [.int (bj_abs (s1 - (s0 / (nI 6)))), .int s2]) w' := by
  refine (bu (ls'' := [some (.ref l0), none, none, some (.ref l3), none, some (.ref l5), some (.ref l6)]) (st' := [.int (nI 6), .int s0, .int s1, .int s2]) bf263_105 bf263_107 rfl rfl).trans ?_
  refine (bu (ls'' := [some (.ref l0), none, none, some (.ref l3), none, some (.ref l5), some (.ref l6)]) (st' := [.int (s0 / (nI 6)), .int s1, .int s2]) bf263_107 bf263_108 rfl rfl).trans ?_
  refine (bu (ls'' := [some (.ref l0), none, none, some (.ref l3), none, some (.ref l5), some (.ref l6)]) (st' := [.int (s1 - (s0 / (nI 6))), .int s2]) bf263_108 bf263_109 rfl rfl).trans ?_
  refine (bu (ls'' := [some (.ref l0), none, none, some (.ref l3), none, some (.ref l5), some (.ref l6)]) (st' := [.int (bj_abs (s1 - (s0 / (nI 6)))), .int s2]) bf263_109 bf263_112 rfl rfl).trans ?_
  refine (bu (ls'' := [some (.ref l0), none, none, some (.ref l3), none, some (.ref l5), none]) (st' := [.ref l6, .int (bj_abs (s1 - (s0 / (nI 6)))), .int s2]) bf263_112 bf263_114 rfl rfl).trans ?_
  exact bkV bf263_114 bf263_117 rfl (by decide +kernel) (Nat.le_of_ble_eq_true rfl) rfl (bhd rfl)
theorem bk263_117 {w : am_Wd} {l0 : Nat} {l3 : Nat} {l5 : Nat} {s0 : Int32} {s1 : Int32} {s2 : Int32} : am_run 263 117 [some (.ref l0), none, none, some (.ref l3), none, some (.ref l5), none] [.int s0, .int s1, .int s2] w = (am_kf w l3 10).bind fun _ => (am_x 38 [.ref l3] w).bind fun r => bct r fun v w' => am_run 263 124 [some (.ref l0), none, none, some (.ref l3), none, some (.ref l5), none] (v.toList ++ [.int (bj_irem s0 (nI 6)), .int s1, .int s2]) w' := by
  refine (bu (ls'' := [some (.ref l0), none, none, some (.ref l3), none, some (.ref l5), none]) (st' := [.int (nI 6), .int s0, .int s1, .int s2]) bf263_117 bf263_119 rfl rfl).trans ?_
  refine (bu (ls'' := [some (.ref l0), none, none, some (.ref l3), none, some (.ref l5), none]) (st' := [.int (bj_irem s0 (nI 6)), .int s1, .int s2]) bf263_119 bf263_120 rfl rfl).trans ?_
  refine (bu (ls'' := [some (.ref l0), none, none, some (.ref l3), none, some (.ref l5), none]) (st' := [.ref l3, .int (bj_irem s0 (nI 6)), .int s1, .int s2]) bf263_120 bf263_121 rfl rfl).trans ?_
  exact bkV bf263_121 bf263_124 rfl (by decide +kernel) (Nat.le_of_ble_eq_true rfl) rfl (bhd rfl)
theorem bk263_124 {w : am_Wd} {l0 : Nat} {l3 : Nat} {l5 : Nat} {s0 : Int32} {s1 : Int32} {s2 : Int32} {s3 : Int32} : am_run 263 124 [some (.ref l0), none, none, some (.ref l3), none, some (.ref l5), none] [.int s0, .int s1, .int s2, .int s3] w = if (nI 2) < (s2 + (bj_abs (s1 - (bj_irem s0 (nI 6))))) then am_run 263 140 [some (.ref l0), none, none, some (.ref l3), none, some (.ref l5), none] [.int s3] w else am_run 263 136 [some (.ref l0), none, none, some (.ref l3), none, some (.ref l5), none] [.int s3] w := by
  refine (bu (ls'' := [some (.ref l0), none, none, some (.ref l3), none, some (.ref l5), none]) (st' := [.int (nI 6), .int s0, .int s1, .int s2, .int s3]) bf263_124 bf263_126 rfl rfl).trans ?_
  refine (bu (ls'' := [some (.ref l0), none, none, some (.ref l3), none, some (.ref l5), none]) (st' := [.int (bj_irem s0 (nI 6)), .int s1, .int s2, .int s3]) bf263_126 bf263_127 rfl rfl).trans ?_
  refine (bu (ls'' := [some (.ref l0), none, none, some (.ref l3), none, some (.ref l5), none]) (st' := [.int (s1 - (bj_irem s0 (nI 6))), .int s2, .int s3]) bf263_127 bf263_128 rfl rfl).trans ?_
  refine (bu (ls'' := [some (.ref l0), none, none, some (.ref l3), none, some (.ref l5), none]) (st' := [.int (bj_abs (s1 - (bj_irem s0 (nI 6)))), .int s2, .int s3]) bf263_128 bf263_131 rfl rfl).trans ?_
  refine (bu (ls'' := [some (.ref l0), none, none, some (.ref l3), none, some (.ref l5), none]) (st' := [.int (s2 + (bj_abs (s1 - (bj_irem s0 (nI 6))))), .int s3]) bf263_131 bf263_132 rfl rfl).trans ?_
  refine (bu (ls'' := [some (.ref l0), none, none, some (.ref l3), none, some (.ref l5), none]) (st' := [.int (nI 2), .int (s2 + (bj_abs (s1 - (bj_irem s0 (nI 6))))), .int s3]) bf263_132 bf263_133 rfl rfl).trans ?_
  exact bic bf263_133 rfl bf263_140 bf263_136 rfl rfl rfl
theorem bk263_136 {w : am_Wd} {l0 : Nat} {l3 : Nat} {l5 : Nat} {s0 : Int32} : am_run 263 136 [some (.ref l0), none, none, some (.ref l3), none, some (.ref l5), none] [.int s0] w = am_run 263 141 [some (.ref l0), none, none, some (.ref l3), none, some (.ref l5), none] [.int (nI 1), .int s0] w := by
  refine (bu (ls'' := [some (.ref l0), none, none, some (.ref l3), none, some (.ref l5), none]) (st' := [.int (nI 1), .int s0]) bf263_136 bf263_137 rfl rfl).trans ?_
  refine (bu (ls'' := [some (.ref l0), none, none, some (.ref l3), none, some (.ref l5), none]) (st' := [.int (nI 1), .int s0]) bf263_137 bf263_141 rfl rfl).trans ?_
  rfl
theorem bf264_0 : am_fetch (am_mth 264) 0 = some (.aload_n 0, 1, [], []) := by decide +kernel
theorem bf264_1 : am_fetch (am_mth 264) 1 = some (.aload_n 0, 1, [], []) := by decide +kernel
theorem bf264_2 : am_fetch (am_mth 264) 2 = some (.iload_n 1, 1, [], []) := by decide +kernel
theorem bf264_3 : am_fetch (am_mth 264) 3 = some (.invokevirtual 149, 3, [0, 99, 1, 11, 1387, 1389, 24, 48], []) := by decide +kernel
theorem bf264_6 : am_fetch (am_mth 264) 6 = some (.iconst 1, 1, [], []) := by decide +kernel
theorem bf264_7 : am_fetch (am_mth 264) 7 = some (.invokevirtual 83, 3, [0, 96, 2, 11, 1251, 1253, 18, 48], []) := by decide +kernel
theorem bf264_10 : am_fetch (am_mth 264) 10 = some (.ifCond .ne 25, 3, [], []) := by decide +kernel
theorem bf264_13 : am_fetch (am_mth 264) 13 = some (.aload_n 0, 1, [], []) := by decide +kernel
theorem bf264_14 : am_fetch (am_mth 264) 14 = some (.iload_n 2, 1, [], []) := by decide +kernel
theorem bf264_15 : am_fetch (am_mth 264) 15 = some (.iconst 0, 1, [], []) := by decide +kernel
theorem bf264_16 : am_fetch (am_mth 264) 16 = some (.iconst 3, 1, [], []) := by decide +kernel
theorem bf264_17 : am_fetch (am_mth 264) 17 = some (.invokestatic 42, 3, [0, 39, 3, 1245, 1246, 48], []) := by decide +kernel
theorem bf264_20 : am_fetch (am_mth 264) 20 = some (.ifCond .ne 7, 3, [], []) := by decide +kernel
theorem bf264_23 : am_fetch (am_mth 264) 23 = some (.iconst 1, 1, [], []) := by decide +kernel
theorem bf264_24 : am_fetch (am_mth 264) 24 = some (.goto 4, 3, [], []) := by decide +kernel
theorem bf264_27 : am_fetch (am_mth 264) 27 = some (.iconst 0, 1, [], []) := by decide +kernel
theorem bf264_28 : am_fetch (am_mth 264) 28 = some (.iconst 2, 1, [], []) := by decide +kernel
theorem bf264_29 : am_fetch (am_mth 264) 29 = some (.invokevirtual 38, 3, [0, 40, 2, 11, 1255, 1257, 19, 48], []) := by decide +kernel
theorem bf264_32 : am_fetch (am_mth 264) 32 = some (.ifCond .eq 7, 3, [], []) := by decide +kernel
theorem bf264_35 : am_fetch (am_mth 264) 35 = some (.iconst 0, 1, [], [0, 1, 2]) := by decide +kernel
theorem bf264_36 : am_fetch (am_mth 264) 36 = some (.goto 19, 3, [], [0, 1, 2]) := by decide +kernel
theorem bf264_39 : am_fetch (am_mth 264) 39 = some (.aload_n 0, 1, [], []) := by decide +kernel
theorem bf264_40 : am_fetch (am_mth 264) 40 = some (.aload_n 0, 1, [], []) := by decide +kernel
theorem bf264_41 : am_fetch (am_mth 264) 41 = some (.getfield 31, 3, [0, 11, 11, 1208], [0]) := by decide +kernel
theorem bf264_44 : am_fetch (am_mth 264) 44 = some (.iload_n 1, 1, [], [0]) := by decide +kernel
theorem bf264_45 : am_fetch (am_mth 264) 45 = some (.invokevirtual 152, 3, [0, 150, 1, 3, 1391, 1392, 1393, 51], [0, 1]) := by decide +kernel
theorem bf264_48 : am_fetch (am_mth 264) 48 = some (.checkcast 72, 3, [0, 10, 1295], [0, 1]) := by decide +kernel
theorem bf264_51 : am_fetch (am_mth 264) 51 = some (.iload_n 2, 1, [], [0, 1]) := by decide +kernel
theorem bf264_52 : am_fetch (am_mth 264) 52 = some (.invokevirtual 280, 3, [0, 259, 2, 11, 1644, 1646, 39, 48], [0, 1, 2]) := by decide +kernel
theorem bf264_55 : am_fetch (am_mth 264) 55 = some (.ireturn, 1, [0], [0, 1, 2]) := by decide +kernel
theorem bk264_0 {w : am_Wd} {l0 : Nat} {l1 : Int32} {l2 : Int32} : am_run 264 0 [some (.ref l0), some (.int l1), some (.int l2)] [] w = (am_kf w l0 11).bind fun _ => (am_x 99 [.ref l0, .int l1] w).bind fun r => bct r fun v w' => am_run 264 6 [some (.ref l0), some (.int l1), some (.int l2)] (v.toList ++ [.ref l0]) w' := by
  refine (bu (ls'' := [some (.ref l0), some (.int l1), some (.int l2)]) (st' := [.ref l0]) bf264_0 bf264_1 rfl rfl).trans ?_
  refine (bu (ls'' := [some (.ref l0), some (.int l1), some (.int l2)]) (st' := [.ref l0, .ref l0]) bf264_1 bf264_2 rfl rfl).trans ?_
  refine (bu (ls'' := [some (.ref l0), some (.int l1), some (.int l2)]) (st' := [.int l1, .ref l0, .ref l0]) bf264_2 bf264_3 rfl rfl).trans ?_
  exact bkV bf264_3 bf264_6 rfl (by decide +kernel) (Nat.le_of_ble_eq_true rfl) rfl (bhd rfl)
theorem bk264_6 {w : am_Wd} {l0 : Nat} {l1 : Int32} {l2 : Int32} {s0 : Int32} {s1 : Nat} : am_run 264 6 [some (.ref l0), some (.int l1), some (.int l2)] [.int s0, .ref s1] w = (am_kf w s1 11).bind fun _ => (am_x 96 [.ref s1, .int s0, .int (nI 1)] w).bind fun r => bct r fun v w' => am_run 264 10 [some (.ref l0), some (.int l1), some (.int l2)] (v.toList ++ []) w' := by
  refine (bu (ls'' := [some (.ref l0), some (.int l1), some (.int l2)]) (st' := [.int (nI 1), .int s0, .ref s1]) bf264_6 bf264_7 rfl rfl).trans ?_
  exact bkV bf264_7 bf264_10 rfl (by decide +kernel) (Nat.le_of_ble_eq_true rfl) rfl (bhd rfl)
theorem bk264_10 {w : am_Wd} {l0 : Nat} {l1 : Int32} {l2 : Int32} {s0 : Int32} : am_run 264 10 [some (.ref l0), some (.int l1), some (.int l2)] [.int s0] w = if ¬ s0 = nI 0 then am_run 264 35 [none, none, none] [] w else am_run 264 13 [some (.ref l0), some (.int l1), some (.int l2)] [] w := by
  exact bifc bf264_10 rfl bf264_35 bf264_13 rfl rfl rfl
theorem bk264_35 {w : am_Wd}  : am_run 264 35 [none, none, none] [] w = am_run 264 55 [none, none, none] [.int (nI 0)] w := by
  refine (bu (ls'' := [none, none, none]) (st' := [.int (nI 0)]) bf264_35 bf264_36 rfl rfl).trans ?_
  refine (bu (ls'' := [none, none, none]) (st' := [.int (nI 0)]) bf264_36 bf264_55 rfl rfl).trans ?_
  rfl
theorem bk264_13 {w : am_Wd} {l0 : Nat} {l1 : Int32} {l2 : Int32} : am_run 264 13 [some (.ref l0), some (.int l1), some (.int l2)] [] w = (am_x 39 [.int l2, .int (nI 0), .int (nI 3)] w).bind fun r => bct r fun v w' => am_run 264 20 [some (.ref l0), some (.int l1), some (.int l2)] (v.toList ++ [.ref l0]) w' := by
  refine (bu (ls'' := [some (.ref l0), some (.int l1), some (.int l2)]) (st' := [.ref l0]) bf264_13 bf264_14 rfl rfl).trans ?_
  refine (bu (ls'' := [some (.ref l0), some (.int l1), some (.int l2)]) (st' := [.int l2, .ref l0]) bf264_14 bf264_15 rfl rfl).trans ?_
  refine (bu (ls'' := [some (.ref l0), some (.int l1), some (.int l2)]) (st' := [.int (nI 0), .int l2, .ref l0]) bf264_15 bf264_16 rfl rfl).trans ?_
  refine (bu (ls'' := [some (.ref l0), some (.int l1), some (.int l2)]) (st' := [.int (nI 3), .int (nI 0), .int l2, .ref l0]) bf264_16 bf264_17 rfl rfl).trans ?_
  exact bkS bf264_17 bf264_20 rfl (by decide +kernel) (Nat.le_of_ble_eq_true rfl) rfl (bhd rfl)
theorem bk264_55 {w : am_Wd} {s0 : Int32} : am_run 264 55 [none, none, none] [.int s0] w = some (.inl (some (.int s0)), w) := by
  exact am_e2 bf264_55 rfl (am_ge_rf w)
theorem bk264_20 {w : am_Wd} {l0 : Nat} {l1 : Int32} {l2 : Int32} {s0 : Int32} {s1 : Nat} : am_run 264 20 [some (.ref l0), some (.int l1), some (.int l2)] [.int s0, .ref s1] w = if ¬ s0 = nI 0 then am_run 264 27 [some (.ref l0), some (.int l1), some (.int l2)] [.ref s1] w else am_run 264 23 [some (.ref l0), some (.int l1), some (.int l2)] [.ref s1] w := by
  exact bifc bf264_20 rfl bf264_27 bf264_23 rfl rfl rfl
theorem bk264_27 {w : am_Wd} {l0 : Nat} {l1 : Int32} {l2 : Int32} {s0 : Nat} : am_run 264 27 [some (.ref l0), some (.int l1), some (.int l2)] [.ref s0] w = am_run 264 28 [some (.ref l0), some (.int l1), some (.int l2)] [.int (nI 0), .ref s0] w := by
  refine (bu (ls'' := [some (.ref l0), some (.int l1), some (.int l2)]) (st' := [.int (nI 0), .ref s0]) bf264_27 bf264_28 rfl rfl).trans ?_
  rfl
theorem bk264_23 {w : am_Wd} {l0 : Nat} {l1 : Int32} {l2 : Int32} {s0 : Nat} : am_run 264 23 [some (.ref l0), some (.int l1), some (.int l2)] [.ref s0] w = am_run 264 28 [some (.ref l0), some (.int l1), some (.int l2)] [.int (nI 1), .ref s0] w := by
  refine (bu (ls'' := [some (.ref l0), some (.int l1), some (.int l2)]) (st' := [.int (nI 1), .ref s0]) bf264_23 bf264_24 rfl rfl).trans ?_
  refine (bu (ls'' := [some (.ref l0), some (.int l1), some (.int l2)]) (st' := [.int (nI 1), .ref s0]) bf264_24 bf264_28 rfl rfl).trans ?_
  rfl
theorem bk264_28 {w : am_Wd} {l0 : Nat} {l1 : Int32} {l2 : Int32} {s0 : Int32} {s1 : Nat} : am_run 264 28 [some (.ref l0), some (.int l1), some (.int l2)] [.int s0, .ref s1] w = (am_kf w s1 11).bind fun _ => (am_x 40 [.ref s1, .int s0, .int (nI 2)] w).bind fun r => bct r fun v w' => am_run 264 32 [some (.ref l0), some (.int l1), some (.int l2)] (v.toList ++ []) w' := by
  refine (bu (ls'' := [some (.ref l0), some (.int l1), some (.int l2)]) (st' := [.int (nI 2), .int s0, .ref s1]) bf264_28 bf264_29 rfl rfl).trans ?_
  exact bkV bf264_29 bf264_32 rfl (by decide +kernel) (Nat.le_of_ble_eq_true rfl) rfl (bhd rfl)
theorem bk264_32 {w : am_Wd} {l0 : Nat} {l1 : Int32} {l2 : Int32} {s0 : Int32} : am_run 264 32 [some (.ref l0), some (.int l1), some (.int l2)] [.int s0] w = if s0 = nI 0 then am_run 264 39 [some (.ref l0), some (.int l1), some (.int l2)] [] w else am_run 264 35 [none, none, none] [] w := by
  exact bifc bf264_32 rfl bf264_39 bf264_35 rfl rfl rfl
theorem bk264_39 {w : am_Wd} {l0 : Nat} {l1 : Int32} {l2 : Int32} : am_run 264 39 [some (.ref l0), some (.int l1), some (.int l2)] [] w = (am_gf w l0 11 11).bind fun v => am_run 264 44 [none, some (.int l1), some (.int l2)] (v :: [.ref l0]) w := by
  refine (bu (ls'' := [some (.ref l0), some (.int l1), some (.int l2)]) (st' := [.ref l0]) bf264_39 bf264_40 rfl rfl).trans ?_
  refine (bu (ls'' := [none, some (.int l1), some (.int l2)]) (st' := [.ref l0, .ref l0]) bf264_40 bf264_41 rfl rfl).trans ?_
  exact bh bf264_41 bf264_44 rfl (fun _ _ => am_ge_rf w) rfl
theorem bk264_44 {w : am_Wd} {l1 : Int32} {l2 : Int32} {s0 : Nat} {s1 : Nat} : am_run 264 44 [none, some (.int l1), some (.int l2)] [.ref s0, .ref s1] w = (am_kf w s0 3).bind fun _ => (am_x 150 [.ref s0, .int l1] w).bind fun r => bct r fun v w' => am_run 264 48 [none, none, some (.int l2)] (v.toList ++ [.ref s1]) w' := by
  refine (bu (ls'' := [none, none, some (.int l2)]) (st' := [.int l1, .ref s0, .ref s1]) bf264_44 bf264_45 rfl rfl).trans ?_
  exact bkV bf264_45 bf264_48 rfl (by decide +kernel) (Nat.le_of_ble_eq_true rfl) rfl (bhd rfl)
theorem bk264_48 {w : am_Wd} {l2 : Int32} {s0 : Nat} {s1 : Nat} : am_run 264 48 [none, none, some (.int l2)] [.ref s0, .ref s1] w = (am_kf w s0 10).bind fun _ => am_run 264 51 [none, none, some (.int l2)] [.ref s0, .ref s1] w := by
  exact bh bf264_48 bf264_51 rfl (fun _ _ => am_ge_rf w) rfl
theorem bk264_51 {w : am_Wd} {l2 : Int32} {s0 : Nat} {s1 : Nat} : am_run 264 51 [none, none, some (.int l2)] [.ref s0, .ref s1] w = (am_kf w s1 11).bind fun _ => (am_x 259 [.ref s1, .ref s0, .int l2] w).bind fun r => bct r fun v w' => am_run 264 55 [none, none, none] (v.toList ++ []) w' := by
  refine (bu (ls'' := [none, none, none]) (st' := [.int l2, .ref s0, .ref s1]) bf264_51 bf264_52 rfl rfl).trans ?_
  exact bkV bf264_52 bf264_55 rfl (by decide +kernel) (Nat.le_of_ble_eq_true rfl) rfl (bhd rfl)
theorem bf265_0 : am_fetch (am_mth 265) 0 = some (.aload_n 0, 1, [], [1, 2, 3, 4, 5, 6]) := by decide +kernel
theorem bf265_1 : am_fetch (am_mth 265) 1 = some (.iconst 0, 1, [], [1, 2, 3, 4, 5, 6]) := by decide +kernel
theorem bf265_2 : am_fetch (am_mth 265) 2 = some (.putfield 35, 3, [0, 11, 0, 1197], [1, 2, 3, 4, 5, 6]) := by decide +kernel
theorem bf265_5 : am_fetch (am_mth 265) 5 = some (.ldc2_w 301, 3, [0, 58286, 1698], [1, 2, 3, 4, 5, 6]) := by decide +kernel
theorem bf265_8 : am_fetch (am_mth 265) 8 = some (.lstore_n 1, 1, [], [1, 2, 3, 4, 5, 6]) := by decide +kernel
theorem bf265_9 : am_fetch (am_mth 265) 9 = some (.iconst 0, 1, [], [2, 3, 4, 5, 6]) := by decide +kernel
theorem bf265_10 : am_fetch (am_mth 265) 10 = some (.istore_n 3, 1, [], [2, 3, 4, 5, 6]) := by decide +kernel
theorem bf265_11 : am_fetch (am_mth 265) 11 = some (.iload_n 3, 1, [], [2, 4, 5, 6]) := by decide +kernel
theorem bf265_12 : am_fetch (am_mth 265) 12 = some (.bipush 11, 2, [], [2, 4, 5, 6]) := by decide +kernel
theorem bf265_14 : am_fetch (am_mth 265) 14 = some (.if_icmp .gt 22, 3, [], [2, 4, 5, 6]) := by decide +kernel
theorem bf265_17 : am_fetch (am_mth 265) 17 = some (.lload_n 1, 1, [], [2, 4, 5, 6]) := by decide +kernel
theorem bf265_18 : am_fetch (am_mth 265) 18 = some (.ldc2_w 303, 3, [0, 31, 1699], [1, 2, 4, 5, 6]) := by decide +kernel
theorem bf265_21 : am_fetch (am_mth 265) 21 = some (.lmul, 1, [], [1, 2, 4, 5, 6]) := by decide +kernel
theorem bf265_22 : am_fetch (am_mth 265) 22 = some (.aload_n 0, 1, [], [1, 2, 4, 5, 6]) := by decide +kernel
theorem bf265_23 : am_fetch (am_mth 265) 23 = some (.iload_n 3, 1, [], [1, 2, 4, 5, 6]) := by decide +kernel
theorem bf265_24 : am_fetch (am_mth 265) 24 = some (.invokevirtual 236, 3, [0, 213, 1, 11, 1573, 1575, 37, 48], [1, 2, 4, 5, 6]) := by decide +kernel
theorem bf265_27 : am_fetch (am_mth 265) 27 = some (.i2l, 1, [], [1, 2, 4, 5, 6]) := by decide +kernel
theorem bf265_28 : am_fetch (am_mth 265) 28 = some (.ladd, 1, [], [1, 2, 4, 5, 6]) := by decide +kernel
theorem bf265_29 : am_fetch (am_mth 265) 29 = some (.lstore_n 1, 1, [], [1, 2, 4, 5, 6]) := by decide +kernel
theorem bf265_30 : am_fetch (am_mth 265) 30 = some (.iinc 3 1, 3, [], [2, 4, 5, 6]) := by decide +kernel
theorem bf265_33 : am_fetch (am_mth 265) 33 = some (.goto (-22), 3, [], [2, 4, 5, 6]) := by decide +kernel
theorem bf265_36 : am_fetch (am_mth 265) 36 = some (.iconst 0, 1, [], [2, 3, 4, 5, 6]) := by decide +kernel
theorem bf265_37 : am_fetch (am_mth 265) 37 = some (.istore_n 3, 1, [], [2, 3, 4, 5, 6]) := by decide +kernel
theorem bf265_38 : am_fetch (am_mth 265) 38 = some (.iload_n 3, 1, [], [2, 4, 5, 6]) := by decide +kernel
theorem bf265_39 : am_fetch (am_mth 265) 39 = some (.bipush 36, 2, [], [2, 4, 5, 6]) := by decide +kernel
theorem bf265_41 : am_fetch (am_mth 265) 41 = some (.if_icmp .ge 56, 3, [], [2, 4, 5, 6]) := by decide +kernel
theorem bf265_44 : am_fetch (am_mth 265) 44 = some (.iconst 1, 1, [], [2, 4, 5, 6]) := by decide +kernel
theorem bf265_45 : am_fetch (am_mth 265) 45 = some (.istore 4, 2, [], [2, 4, 5, 6]) := by decide +kernel
theorem bf265_47 : am_fetch (am_mth 265) 47 = some (.iload 4, 2, [], [2, 5, 6]) := by decide +kernel
theorem bf265_49 : am_fetch (am_mth 265) 49 = some (.iconst 2, 1, [], [2, 5, 6]) := by decide +kernel
theorem bf265_50 : am_fetch (am_mth 265) 50 = some (.if_icmp .gt 41, 3, [], [2, 5, 6]) := by decide +kernel
theorem bf265_53 : am_fetch (am_mth 265) 53 = some (.iconst 0, 1, [], [2, 5, 6]) := by decide +kernel
theorem bf265_54 : am_fetch (am_mth 265) 54 = some (.istore 5, 2, [], [2, 5, 6]) := by decide +kernel
theorem bf265_56 : am_fetch (am_mth 265) 56 = some (.iload 5, 2, [], [2, 6]) := by decide +kernel
theorem bf265_58 : am_fetch (am_mth 265) 58 = some (.iconst 1, 1, [], [2, 6]) := by decide +kernel
theorem bf265_59 : am_fetch (am_mth 265) 59 = some (.if_icmp .gt 26, 3, [], [2, 6]) := by decide +kernel
theorem bf265_62 : am_fetch (am_mth 265) 62 = some (.lload_n 1, 1, [], [2, 6]) := by decide +kernel
theorem bf265_63 : am_fetch (am_mth 265) 63 = some (.ldc2_w 303, 3, [0, 31, 1699], [1, 2, 6]) := by decide +kernel
theorem bf265_66 : am_fetch (am_mth 265) 66 = some (.lmul, 1, [], [1, 2, 6]) := by decide +kernel
theorem bf265_67 : am_fetch (am_mth 265) 67 = some (.aload_n 0, 1, [], [1, 2, 6]) := by decide +kernel
theorem bf265_68 : am_fetch (am_mth 265) 68 = some (.iload_n 3, 1, [], [1, 2, 6]) := by decide +kernel
theorem bf265_69 : am_fetch (am_mth 265) 69 = some (.iload 4, 2, [], [1, 2, 6]) := by decide +kernel
theorem bf265_71 : am_fetch (am_mth 265) 71 = some (.iload 5, 2, [], [1, 2, 6]) := by decide +kernel
theorem bf265_73 : am_fetch (am_mth 265) 73 = some (.invokevirtual 228, 3, [0, 181, 3, 11, 1557, 1559, 35, 48], [1, 2, 6]) := by decide +kernel
theorem bf265_76 : am_fetch (am_mth 265) 76 = some (.i2l, 1, [], [1, 2, 6]) := by decide +kernel
theorem bf265_77 : am_fetch (am_mth 265) 77 = some (.ladd, 1, [], [1, 2, 6]) := by decide +kernel
theorem bf265_78 : am_fetch (am_mth 265) 78 = some (.lstore_n 1, 1, [], [1, 2, 6]) := by decide +kernel
theorem bf265_79 : am_fetch (am_mth 265) 79 = some (.iinc 5 1, 3, [], [2, 6]) := by decide +kernel
theorem bf265_82 : am_fetch (am_mth 265) 82 = some (.goto (-26), 3, [], [2, 6]) := by decide +kernel
theorem bf265_85 : am_fetch (am_mth 265) 85 = some (.iinc 4 1, 3, [], [2, 5, 6]) := by decide +kernel
theorem bf265_88 : am_fetch (am_mth 265) 88 = some (.goto (-41), 3, [], [2, 5, 6]) := by decide +kernel
theorem bf265_91 : am_fetch (am_mth 265) 91 = some (.iinc 3 1, 3, [], [2, 4, 5, 6]) := by decide +kernel
theorem bf265_94 : am_fetch (am_mth 265) 94 = some (.goto (-56), 3, [], [2, 4, 5, 6]) := by decide +kernel
theorem bf265_97 : am_fetch (am_mth 265) 97 = some (.aload_n 0, 1, [], [2, 3, 4, 5, 6]) := by decide +kernel
theorem bf265_98 : am_fetch (am_mth 265) 98 = some (.getfield 31, 3, [0, 11, 11, 1208], [2, 3, 4, 5, 6]) := by decide +kernel
theorem bf265_101 : am_fetch (am_mth 265) 101 = some (.invokevirtual 200, 3, [0, 105, 0, 3, 1486, 1487, 1488, 51], [2, 3, 4, 5, 6]) := by decide +kernel
theorem bf265_104 : am_fetch (am_mth 265) 104 = some (.astore_n 3, 1, [], [2, 3, 4, 5, 6]) := by decide +kernel
theorem bf265_105 : am_fetch (am_mth 265) 105 = some (.aload_n 3, 1, [], [2, 4, 5, 6]) := by decide +kernel
theorem bf265_106 : am_fetch (am_mth 265) 106 = some (.invokeinterface 204 1, 5, [0, 52, 0, 2, 1510, 1514, 1516, 72], [2, 4, 5, 6]) := by decide +kernel
theorem bf265_111 : am_fetch (am_mth 265) 111 = some (.ifCond .eq 221, 3, [], [2, 4, 5, 6]) := by decide +kernel
theorem bf265_114 : am_fetch (am_mth 265) 114 = some (.aload_n 3, 1, [], [2, 4, 5, 6]) := by decide +kernel
theorem bf265_115 : am_fetch (am_mth 265) 115 = some (.invokeinterface 210 1, 5, [0, 103, 0, 2, 1520, 1523, 1525, 72], [2, 4, 5, 6]) := by decide +kernel
theorem bf265_120 : am_fetch (am_mth 265) 120 = some (.checkcast 72, 3, [0, 10, 1295], [2, 4, 5, 6]) := by decide +kernel
theorem bf265_123 : am_fetch (am_mth 265) 123 = some (.astore 4, 2, [], [2, 4, 5, 6]) := by decide +kernel
theorem bf265_125 : am_fetch (am_mth 265) 125 = some (.iconst 0, 1, [], [2, 5, 6]) := by decide +kernel
theorem bf265_126 : am_fetch (am_mth 265) 126 = some (.istore 5, 2, [], [2, 5, 6]) := by decide +kernel
theorem bf265_128 : am_fetch (am_mth 265) 128 = some (.iload 5, 2, [], [2, 6]) := by decide +kernel
theorem bf265_130 : am_fetch (am_mth 265) 130 = some (.bipush 12, 2, [], [2, 6]) := by decide +kernel
theorem bf265_132 : am_fetch (am_mth 265) 132 = some (.if_icmp .gt 25, 3, [], [2, 6]) := by decide +kernel
theorem bf265_135 : am_fetch (am_mth 265) 135 = some (.lload_n 1, 1, [], [2, 6]) := by decide +kernel
theorem bf265_136 : am_fetch (am_mth 265) 136 = some (.ldc2_w 303, 3, [0, 31, 1699], [1, 2, 6]) := by decide +kernel
theorem bf265_139 : am_fetch (am_mth 265) 139 = some (.lmul, 1, [], [1, 2, 6]) := by decide +kernel
theorem bf265_140 : am_fetch (am_mth 265) 140 = some (.aload_n 0, 1, [], [1, 2, 6]) := by decide +kernel
theorem bf265_141 : am_fetch (am_mth 265) 141 = some (.aload 4, 2, [], [1, 2, 6]) := by decide +kernel
theorem bf265_143 : am_fetch (am_mth 265) 143 = some (.iload 5, 2, [], [1, 2, 6]) := by decide +kernel
theorem bf265_145 : am_fetch (am_mth 265) 145 = some (.invokevirtual 232, 3, [0, 146, 2, 11, 1565, 1567, 36, 48], [1, 2, 6]) := by decide +kernel
theorem bf265_148 : am_fetch (am_mth 265) 148 = some (.i2l, 1, [], [1, 2, 6]) := by decide +kernel
theorem bf265_149 : am_fetch (am_mth 265) 149 = some (.ladd, 1, [], [1, 2, 6]) := by decide +kernel
theorem bf265_150 : am_fetch (am_mth 265) 150 = some (.lstore_n 1, 1, [], [1, 2, 6]) := by decide +kernel
theorem bf265_151 : am_fetch (am_mth 265) 151 = some (.iinc 5 1, 3, [], [2, 6]) := by decide +kernel
theorem bf265_154 : am_fetch (am_mth 265) 154 = some (.goto (-26), 3, [], [2, 6]) := by decide +kernel
theorem bf265_157 : am_fetch (am_mth 265) 157 = some (.iconst 0, 1, [], [2, 5, 6]) := by decide +kernel
theorem bf265_158 : am_fetch (am_mth 265) 158 = some (.istore 5, 2, [], [2, 5, 6]) := by decide +kernel
theorem bf265_160 : am_fetch (am_mth 265) 160 = some (.iload 5, 2, [], [2, 6]) := by decide +kernel
theorem bf265_162 : am_fetch (am_mth 265) 162 = some (.iconst 4, 1, [], [2, 6]) := by decide +kernel
theorem bf265_163 : am_fetch (am_mth 265) 163 = some (.if_icmp .ge 24, 3, [], [2, 6]) := by decide +kernel
theorem bf265_166 : am_fetch (am_mth 265) 166 = some (.lload_n 1, 1, [], [2, 6]) := by decide +kernel
theorem bf265_167 : am_fetch (am_mth 265) 167 = some (.ldc2_w 303, 3, [0, 31, 1699], [1, 2, 6]) := by decide +kernel
theorem bf265_170 : am_fetch (am_mth 265) 170 = some (.lmul, 1, [], [1, 2, 6]) := by decide +kernel
theorem bf265_171 : am_fetch (am_mth 265) 171 = some (.aload_n 0, 1, [], [1, 2, 6]) := by decide +kernel
theorem bf265_172 : am_fetch (am_mth 265) 172 = some (.aload 4, 2, [], [1, 2, 6]) := by decide +kernel
theorem bf265_174 : am_fetch (am_mth 265) 174 = some (.iload 5, 2, [], [1, 2, 6]) := by decide +kernel
theorem bf265_176 : am_fetch (am_mth 265) 176 = some (.invokevirtual 273, 3, [0, 48, 2, 11, 1632, 1634, 38, 48], [1, 2, 6]) := by decide +kernel
theorem bf265_179 : am_fetch (am_mth 265) 179 = some (.ladd, 1, [], [1, 2, 6]) := by decide +kernel
theorem bf265_180 : am_fetch (am_mth 265) 180 = some (.lstore_n 1, 1, [], [1, 2, 6]) := by decide +kernel
theorem bf265_181 : am_fetch (am_mth 265) 181 = some (.iinc 5 1, 3, [], [2, 6]) := by decide +kernel
theorem bf265_184 : am_fetch (am_mth 265) 184 = some (.goto (-24), 3, [], [2, 6]) := by decide +kernel
theorem bf265_187 : am_fetch (am_mth 265) 187 = some (.iconst 0, 1, [], [2, 5, 6]) := by decide +kernel
theorem bf265_188 : am_fetch (am_mth 265) 188 = some (.istore 5, 2, [], [2, 5, 6]) := by decide +kernel
theorem bf265_190 : am_fetch (am_mth 265) 190 = some (.iload 5, 2, [], [2, 6]) := by decide +kernel
theorem bf265_192 : am_fetch (am_mth 265) 192 = some (.iconst 3, 1, [], [2, 6]) := by decide +kernel
theorem bf265_193 : am_fetch (am_mth 265) 193 = some (.if_icmp .gt 25, 3, [], [2, 6]) := by decide +kernel
theorem bf265_196 : am_fetch (am_mth 265) 196 = some (.lload_n 1, 1, [], [2, 6]) := by decide +kernel
theorem bf265_197 : am_fetch (am_mth 265) 197 = some (.ldc2_w 303, 3, [0, 31, 1699], [1, 2, 6]) := by decide +kernel
theorem bf265_200 : am_fetch (am_mth 265) 200 = some (.lmul, 1, [], [1, 2, 6]) := by decide +kernel
theorem bf265_201 : am_fetch (am_mth 265) 201 = some (.aload_n 0, 1, [], [1, 2, 6]) := by decide +kernel
theorem bf265_202 : am_fetch (am_mth 265) 202 = some (.aload 4, 2, [], [1, 2, 6]) := by decide +kernel
theorem bf265_204 : am_fetch (am_mth 265) 204 = some (.iload 5, 2, [], [1, 2, 6]) := by decide +kernel
theorem bf265_206 : am_fetch (am_mth 265) 206 = some (.invokevirtual 280, 3, [0, 259, 2, 11, 1644, 1646, 39, 48], [1, 2, 6]) := by decide +kernel
theorem bf265_209 : am_fetch (am_mth 265) 209 = some (.i2l, 1, [], [1, 2, 6]) := by decide +kernel
theorem bf265_210 : am_fetch (am_mth 265) 210 = some (.ladd, 1, [], [1, 2, 6]) := by decide +kernel
theorem bf265_211 : am_fetch (am_mth 265) 211 = some (.lstore_n 1, 1, [], [1, 2, 6]) := by decide +kernel
theorem bf265_212 : am_fetch (am_mth 265) 212 = some (.iinc 5 1, 3, [], [2, 6]) := by decide +kernel
theorem bf265_215 : am_fetch (am_mth 265) 215 = some (.goto (-25), 3, [], [2, 6]) := by decide +kernel
theorem bf265_218 : am_fetch (am_mth 265) 218 = some (.iconst 0, 1, [], [2, 5, 6]) := by decide +kernel
theorem bf265_219 : am_fetch (am_mth 265) 219 = some (.istore 5, 2, [], [2, 5, 6]) := by decide +kernel
theorem bf265_221 : am_fetch (am_mth 265) 221 = some (.iload 5, 2, [], [2, 6]) := by decide +kernel
theorem bf265_223 : am_fetch (am_mth 265) 223 = some (.iconst 3, 1, [], [2, 6]) := by decide +kernel
theorem bf265_224 : am_fetch (am_mth 265) 224 = some (.if_icmp .gt 25, 3, [], [2, 6]) := by decide +kernel
theorem bf265_227 : am_fetch (am_mth 265) 227 = some (.lload_n 1, 1, [], [2, 6]) := by decide +kernel
theorem bf265_228 : am_fetch (am_mth 265) 228 = some (.ldc2_w 303, 3, [0, 31, 1699], [1, 2, 6]) := by decide +kernel
theorem bf265_231 : am_fetch (am_mth 265) 231 = some (.lmul, 1, [], [1, 2, 6]) := by decide +kernel
theorem bf265_232 : am_fetch (am_mth 265) 232 = some (.aload_n 0, 1, [], [1, 2, 6]) := by decide +kernel
theorem bf265_233 : am_fetch (am_mth 265) 233 = some (.aload 4, 2, [], [1, 2, 6]) := by decide +kernel
theorem bf265_235 : am_fetch (am_mth 265) 235 = some (.iload 5, 2, [], [1, 2, 6]) := by decide +kernel
theorem bf265_237 : am_fetch (am_mth 265) 237 = some (.invokevirtual 292, 3, [0, 230, 2, 11, 1665, 1667, 42, 48], [1, 2, 6]) := by decide +kernel
theorem bf265_240 : am_fetch (am_mth 265) 240 = some (.i2l, 1, [], [1, 2, 6]) := by decide +kernel
theorem bf265_241 : am_fetch (am_mth 265) 241 = some (.ladd, 1, [], [1, 2, 6]) := by decide +kernel
theorem bf265_242 : am_fetch (am_mth 265) 242 = some (.lstore_n 1, 1, [], [1, 2, 6]) := by decide +kernel
theorem bf265_243 : am_fetch (am_mth 265) 243 = some (.iinc 5 1, 3, [], [2, 6]) := by decide +kernel
theorem bf265_246 : am_fetch (am_mth 265) 246 = some (.goto (-25), 3, [], [2, 6]) := by decide +kernel
theorem bf265_249 : am_fetch (am_mth 265) 249 = some (.lload_n 1, 1, [], [2, 5, 6]) := by decide +kernel
theorem bf265_250 : am_fetch (am_mth 265) 250 = some (.ldc2_w 303, 3, [0, 31, 1699], [1, 2, 5, 6]) := by decide +kernel
theorem bf265_253 : am_fetch (am_mth 265) 253 = some (.lmul, 1, [], [1, 2, 5, 6]) := by decide +kernel
theorem bf265_254 : am_fetch (am_mth 265) 254 = some (.aload_n 0, 1, [], [1, 2, 5, 6]) := by decide +kernel
theorem bf265_255 : am_fetch (am_mth 265) 255 = some (.aload 4, 2, [], [1, 2, 5, 6]) := by decide +kernel
theorem bf265_257 : am_fetch (am_mth 265) 257 = some (.invokevirtual 295, 3, [0, 248, 1, 11, 1674, 1676, 43, 48], [1, 2, 5, 6]) := by decide +kernel
theorem bf265_260 : am_fetch (am_mth 265) 260 = some (.i2l, 1, [], [1, 2, 5, 6]) := by decide +kernel
theorem bf265_261 : am_fetch (am_mth 265) 261 = some (.ladd, 1, [], [1, 2, 5, 6]) := by decide +kernel
theorem bf265_262 : am_fetch (am_mth 265) 262 = some (.lstore_n 1, 1, [], [1, 2, 5, 6]) := by decide +kernel
theorem bf265_263 : am_fetch (am_mth 265) 263 = some (.lload_n 1, 1, [], [2, 5, 6]) := by decide +kernel
theorem bf265_264 : am_fetch (am_mth 265) 264 = some (.ldc2_w 303, 3, [0, 31, 1699], [1, 2, 5, 6]) := by decide +kernel
theorem bf265_267 : am_fetch (am_mth 265) 267 = some (.lmul, 1, [], [1, 2, 5, 6]) := by decide +kernel
theorem bf265_268 : am_fetch (am_mth 265) 268 = some (.ldc2_w 305, 3, [1, 4634204016564240384, 1700], [1, 2, 5, 6]) := by decide +kernel
theorem bf265_271 : am_fetch (am_mth 265) 271 = some (.aload_n 0, 1, [], [1, 2, 5, 6]) := by decide +kernel
theorem bf265_272 : am_fetch (am_mth 265) 272 = some (.aload 4, 2, [], [1, 2, 5, 6]) := by decide +kernel
theorem bf265_274 : am_fetch (am_mth 265) 274 = some (.invokevirtual 285, 3, [0, 49, 1, 11, 1656, 1658, 41, 48], [1, 2, 5, 6]) := by decide +kernel
theorem bf265_277 : am_fetch (am_mth 265) 277 = some (.dmul, 1, [], [1, 2, 5, 6]) := by decide +kernel
theorem bf265_278 : am_fetch (am_mth 265) 278 = some (.d2l, 1, [], [1, 2, 5, 6]) := by decide +kernel
theorem bf265_279 : am_fetch (am_mth 265) 279 = some (.ladd, 1, [], [1, 2, 5, 6]) := by decide +kernel
theorem bf265_280 : am_fetch (am_mth 265) 280 = some (.lstore_n 1, 1, [], [1, 2, 5, 6]) := by decide +kernel
theorem bf265_281 : am_fetch (am_mth 265) 281 = some (.iconst 0, 1, [], [2, 5, 6]) := by decide +kernel
theorem bf265_282 : am_fetch (am_mth 265) 282 = some (.istore 5, 2, [], [2, 5, 6]) := by decide +kernel
theorem bf265_284 : am_fetch (am_mth 265) 284 = some (.iload 5, 2, [], [2, 6]) := by decide +kernel
theorem bf265_286 : am_fetch (am_mth 265) 286 = some (.bipush 36, 2, [], [2, 6]) := by decide +kernel
theorem bf265_288 : am_fetch (am_mth 265) 288 = some (.if_icmp .ge 41, 3, [], [2, 6]) := by decide +kernel
theorem bf265_291 : am_fetch (am_mth 265) 291 = some (.iconst 1, 1, [], [2, 6]) := by decide +kernel
theorem bf265_292 : am_fetch (am_mth 265) 292 = some (.istore 6, 2, [], [2, 6]) := by decide +kernel
theorem bf265_294 : am_fetch (am_mth 265) 294 = some (.iload 6, 2, [], [2]) := by decide +kernel
theorem bf265_296 : am_fetch (am_mth 265) 296 = some (.iconst 2, 1, [], [2]) := by decide +kernel
theorem bf265_297 : am_fetch (am_mth 265) 297 = some (.if_icmp .gt 26, 3, [], [2]) := by decide +kernel
theorem bf265_300 : am_fetch (am_mth 265) 300 = some (.lload_n 1, 1, [], [2]) := by decide +kernel
theorem bf265_301 : am_fetch (am_mth 265) 301 = some (.ldc2_w 303, 3, [0, 31, 1699], [1, 2]) := by decide +kernel
theorem bf265_304 : am_fetch (am_mth 265) 304 = some (.lmul, 1, [], [1, 2]) := by decide +kernel
theorem bf265_305 : am_fetch (am_mth 265) 305 = some (.aload 4, 2, [], [1, 2]) := by decide +kernel
theorem bf265_307 : am_fetch (am_mth 265) 307 = some (.iload 5, 2, [], [1, 2]) := by decide +kernel
theorem bf265_309 : am_fetch (am_mth 265) 309 = some (.iload 6, 2, [], [1, 2]) := by decide +kernel
theorem bf265_311 : am_fetch (am_mth 265) 311 = some (.invokestatic 118, 3, [0, 174, 3, 1431, 1432, 48], [1, 2]) := by decide +kernel
theorem bf265_314 : am_fetch (am_mth 265) 314 = some (.i2l, 1, [], [1, 2]) := by decide +kernel
theorem bf265_315 : am_fetch (am_mth 265) 315 = some (.ladd, 1, [], [1, 2]) := by decide +kernel
theorem bf265_316 : am_fetch (am_mth 265) 316 = some (.lstore_n 1, 1, [], [1, 2]) := by decide +kernel
theorem bf265_317 : am_fetch (am_mth 265) 317 = some (.iinc 6 1, 3, [], [2]) := by decide +kernel
theorem bf265_320 : am_fetch (am_mth 265) 320 = some (.goto (-26), 3, [], [2]) := by decide +kernel
theorem bf265_323 : am_fetch (am_mth 265) 323 = some (.iinc 5 1, 3, [], [2, 6]) := by decide +kernel
theorem bf265_326 : am_fetch (am_mth 265) 326 = some (.goto (-42), 3, [], [2, 6]) := by decide +kernel
theorem bf265_329 : am_fetch (am_mth 265) 329 = some (.goto (-224), 3, [], [2, 4, 5, 6]) := by decide +kernel
theorem bf265_332 : am_fetch (am_mth 265) 332 = some (.lload_n 1, 1, [], [2, 3, 4, 5, 6]) := by decide +kernel
theorem bf265_333 : am_fetch (am_mth 265) 333 = some (.ldc2_w 303, 3, [0, 31, 1699], [1, 2, 3, 4, 5, 6]) := by decide +kernel
theorem bf265_336 : am_fetch (am_mth 265) 336 = some (.lmul, 1, [], [1, 2, 3, 4, 5, 6]) := by decide +kernel
theorem bf265_337 : am_fetch (am_mth 265) 337 = some (.aload_n 0, 1, [], [1, 2, 3, 4, 5, 6]) := by decide +kernel
theorem bf265_338 : am_fetch (am_mth 265) 338 = some (.invokevirtual 298, 3, [0, 186, 0, 11, 1690, 1692, 44, 48], [0, 1, 2, 3, 4, 5, 6]) := by decide +kernel
theorem bf265_341 : am_fetch (am_mth 265) 341 = some (.ifCond .eq 7, 3, [], [0, 1, 2, 3, 4, 5, 6]) := by decide +kernel
theorem bf265_344 : am_fetch (am_mth 265) 344 = some (.iconst 1, 1, [], [0, 1, 2, 3, 4, 5, 6]) := by decide +kernel
theorem bf265_345 : am_fetch (am_mth 265) 345 = some (.goto 4, 3, [], [0, 1, 2, 3, 4, 5, 6]) := by decide +kernel
theorem bf265_348 : am_fetch (am_mth 265) 348 = some (.iconst 0, 1, [], [0, 1, 2, 3, 4, 5, 6]) := by decide +kernel
theorem bf265_349 : am_fetch (am_mth 265) 349 = some (.i2l, 1, [], [0, 1, 2, 3, 4, 5, 6]) := by decide +kernel
theorem bf265_350 : am_fetch (am_mth 265) 350 = some (.ladd, 1, [], [0, 1, 2, 3, 4, 5, 6]) := by decide +kernel
theorem bf265_351 : am_fetch (am_mth 265) 351 = some (.lreturn, 1, [], [0, 1, 2, 3, 4, 5, 6]) := by decide +kernel
theorem bk265_0 {w : am_Wd} {l0 : Nat} : am_run 265 0 [some (.ref l0), none, none, none, none, none, none] [] w = (am_pf w l0 11 0 (.int (nI 0))).bind fun w' => am_run 265 5 [some (.ref l0), none, none, none, none, none, none] [] w' := by
  refine (bu (ls'' := [some (.ref l0), none, none, none, none, none, none]) (st' := [.ref l0]) bf265_0 bf265_1 rfl rfl).trans ?_
  refine (bu (ls'' := [some (.ref l0), none, none, none, none, none, none]) (st' := [.int (nI 0), .ref l0]) bf265_1 bf265_2 rfl rfl).trans ?_
  exact bh bf265_2 bf265_5 rfl (bge_pf) rfl
theorem bk265_5 {w : am_Wd} {l0 : Nat} : am_run 265 5 [some (.ref l0), none, none, none, none, none, none] [] w = am_run 265 11 [some (.ref l0), some (.long (lN 58286)), none, some (.int (nI 0)), none, none, none] [] w := by
  refine (bu (ls'' := [some (.ref l0), none, none, none, none, none, none]) (st' := [.long (lN 58286)]) bf265_5 bf265_8 rfl rfl).trans ?_
  refine (bu (ls'' := [some (.ref l0), some (.long (lN 58286)), none, none, none, none, none]) (st' := []) bf265_8 bf265_9 rfl rfl).trans ?_
  refine (bu (ls'' := [some (.ref l0), some (.long (lN 58286)), none, none, none, none, none]) (st' := [.int (nI 0)]) bf265_9 bf265_10 rfl rfl).trans ?_
  refine (bu (ls'' := [some (.ref l0), some (.long (lN 58286)), none, some (.int (nI 0)), none, none, none]) (st' := []) bf265_10 bf265_11 rfl rfl).trans ?_
  rfl
theorem bk265_11 {w : am_Wd} {l0 : Nat} {l1 : Int64} {l3 : Int32} : am_run 265 11 [some (.ref l0), some (.long l1), none, some (.int l3), none, none, none] [] w = if (nI 11) < l3 then am_run 265 36 [some (.ref l0), some (.long l1), none, none, none, none, none] [] w else am_run 265 17 [some (.ref l0), some (.long l1), none, some (.int l3), none, none, none] [] w := by
  refine (bu (ls'' := [some (.ref l0), some (.long l1), none, some (.int l3), none, none, none]) (st' := [.int l3]) bf265_11 bf265_12 rfl rfl).trans ?_
  refine (bu (ls'' := [some (.ref l0), some (.long l1), none, some (.int l3), none, none, none]) (st' := [.int (nI 11), .int l3]) bf265_12 bf265_14 rfl rfl).trans ?_
  exact bic bf265_14 rfl bf265_36 bf265_17 rfl rfl rfl
theorem bk265_36 {w : am_Wd} {l0 : Nat} {l1 : Int64} : am_run 265 36 [some (.ref l0), some (.long l1), none, none, none, none, none] [] w = am_run 265 38 [some (.ref l0), some (.long l1), none, some (.int (nI 0)), none, none, none] [] w := by
  refine (bu (ls'' := [some (.ref l0), some (.long l1), none, none, none, none, none]) (st' := [.int (nI 0)]) bf265_36 bf265_37 rfl rfl).trans ?_
  refine (bu (ls'' := [some (.ref l0), some (.long l1), none, some (.int (nI 0)), none, none, none]) (st' := []) bf265_37 bf265_38 rfl rfl).trans ?_
  rfl
theorem bk265_17 {w : am_Wd} {l0 : Nat} {l1 : Int64} {l3 : Int32} : am_run 265 17 [some (.ref l0), some (.long l1), none, some (.int l3), none, none, none] [] w = (am_kf w l0 11).bind fun _ => (am_x 213 [.ref l0, .int l3] w).bind fun r => bct r fun v w' => am_run 265 27 [some (.ref l0), none, none, some (.int l3), none, none, none] (v.toList ++ [.long (l1 * (lN 31))]) w' := by
  refine (bu (ls'' := [some (.ref l0), none, none, some (.int l3), none, none, none]) (st' := [.long l1]) bf265_17 bf265_18 rfl rfl).trans ?_
  refine (bu (ls'' := [some (.ref l0), none, none, some (.int l3), none, none, none]) (st' := [.long (lN 31), .long l1]) bf265_18 bf265_21 rfl rfl).trans ?_
  refine (bu (ls'' := [some (.ref l0), none, none, some (.int l3), none, none, none]) (st' := [.long (l1 * (lN 31))]) bf265_21 bf265_22 rfl rfl).trans ?_
  refine (bu (ls'' := [some (.ref l0), none, none, some (.int l3), none, none, none]) (st' := [.ref l0, .long (l1 * (lN 31))]) bf265_22 bf265_23 rfl rfl).trans ?_
  refine (bu (ls'' := [some (.ref l0), none, none, some (.int l3), none, none, none]) (st' := [.int l3, .ref l0, .long (l1 * (lN 31))]) bf265_23 bf265_24 rfl rfl).trans ?_
  exact bkV bf265_24 bf265_27 rfl (by decide +kernel) (Nat.le_of_ble_eq_true rfl) rfl (bhd rfl)
theorem bk265_38 {w : am_Wd} {l0 : Nat} {l1 : Int64} {l3 : Int32} : am_run 265 38 [some (.ref l0), some (.long l1), none, some (.int l3), none, none, none] [] w = if (nI 36) ≤ l3 then am_run 265 97 [some (.ref l0), some (.long l1), none, none, none, none, none] [] w else am_run 265 44 [some (.ref l0), some (.long l1), none, some (.int l3), none, none, none] [] w := by
  refine (bu (ls'' := [some (.ref l0), some (.long l1), none, some (.int l3), none, none, none]) (st' := [.int l3]) bf265_38 bf265_39 rfl rfl).trans ?_
  refine (bu (ls'' := [some (.ref l0), some (.long l1), none, some (.int l3), none, none, none]) (st' := [.int (nI 36), .int l3]) bf265_39 bf265_41 rfl rfl).trans ?_
  exact bic bf265_41 rfl bf265_97 bf265_44 rfl rfl rfl
theorem bk265_27 {w : am_Wd} {l0 : Nat} {l3 : Int32} {s0 : Int32} {s1 : Int64} : am_run 265 27 [some (.ref l0), none, none, some (.int l3), none, none, none] [.int s0, .long s1] w = am_run 265 11 [some (.ref l0), some (.long (s1 + (Int32.toInt64 s0))), none, some (.int (l3 + (nI 1))), none, none, none] [] w := by
  refine (bu (ls'' := [some (.ref l0), none, none, some (.int l3), none, none, none]) (st' := [.long (Int32.toInt64 s0), .long s1]) bf265_27 bf265_28 rfl rfl).trans ?_
  refine (bu (ls'' := [some (.ref l0), none, none, some (.int l3), none, none, none]) (st' := [.long (s1 + (Int32.toInt64 s0))]) bf265_28 bf265_29 rfl rfl).trans ?_
  refine (bu (ls'' := [some (.ref l0), some (.long (s1 + (Int32.toInt64 s0))), none, some (.int l3), none, none, none]) (st' := []) bf265_29 bf265_30 rfl rfl).trans ?_
  refine (bu (ls'' := [some (.ref l0), some (.long (s1 + (Int32.toInt64 s0))), none, some (.int (l3 + (nI 1))), none, none, none]) (st' := []) bf265_30 bf265_33 rfl rfl).trans ?_
  refine (bu (ls'' := [some (.ref l0), some (.long (s1 + (Int32.toInt64 s0))), none, some (.int (l3 + (nI 1))), none, none, none]) (st' := []) bf265_33 bf265_11 rfl rfl).trans ?_
  rfl
theorem bk265_97 {w : am_Wd} {l0 : Nat} {l1 : Int64} : am_run 265 97 [some (.ref l0), some (.long l1), none, none, none, none, none] [] w = (am_gf w l0 11 11).bind fun v => am_run 265 101 [some (.ref l0), some (.long l1), none, none, none, none, none] (v :: []) w := by
  refine (bu (ls'' := [some (.ref l0), some (.long l1), none, none, none, none, none]) (st' := [.ref l0]) bf265_97 bf265_98 rfl rfl).trans ?_
  exact bh bf265_98 bf265_101 rfl (fun _ _ => am_ge_rf w) rfl
theorem bk265_44 {w : am_Wd} {l0 : Nat} {l1 : Int64} {l3 : Int32} : am_run 265 44 [some (.ref l0), some (.long l1), none, some (.int l3), none, none, none] [] w = am_run 265 47 [some (.ref l0), some (.long l1), none, some (.int l3), some (.int (nI 1)), none, none] [] w := by
  refine (bu (ls'' := [some (.ref l0), some (.long l1), none, some (.int l3), none, none, none]) (st' := [.int (nI 1)]) bf265_44 bf265_45 rfl rfl).trans ?_
  refine (bu (ls'' := [some (.ref l0), some (.long l1), none, some (.int l3), some (.int (nI 1)), none, none]) (st' := []) bf265_45 bf265_47 rfl rfl).trans ?_
  rfl
theorem bk265_101 {w : am_Wd} {l0 : Nat} {l1 : Int64} {s0 : Nat} : am_run 265 101 [some (.ref l0), some (.long l1), none, none, none, none, none] [.ref s0] w = (am_kf w s0 3).bind fun _ => (am_x 105 [.ref s0] w).bind fun r => bct r fun v w' => am_run 265 104 [some (.ref l0), some (.long l1), none, none, none, none, none] (v.toList ++ []) w' := by
  exact bkV bf265_101 bf265_104 rfl (by decide +kernel) (Nat.le_of_ble_eq_true rfl) rfl (bhd rfl)
theorem bk265_47 {w : am_Wd} {l0 : Nat} {l1 : Int64} {l3 : Int32} {l4 : Int32} : am_run 265 47 [some (.ref l0), some (.long l1), none, some (.int l3), some (.int l4), none, none] [] w = if (nI 2) < l4 then am_run 265 91 [some (.ref l0), some (.long l1), none, some (.int l3), none, none, none] [] w else am_run 265 53 [some (.ref l0), some (.long l1), none, some (.int l3), some (.int l4), none, none] [] w := by
  refine (bu (ls'' := [some (.ref l0), some (.long l1), none, some (.int l3), some (.int l4), none, none]) (st' := [.int l4]) bf265_47 bf265_49 rfl rfl).trans ?_
  refine (bu (ls'' := [some (.ref l0), some (.long l1), none, some (.int l3), some (.int l4), none, none]) (st' := [.int (nI 2), .int l4]) bf265_49 bf265_50 rfl rfl).trans ?_
  exact bic bf265_50 rfl bf265_91 bf265_53 rfl rfl rfl
theorem bk265_104 {w : am_Wd} {l0 : Nat} {l1 : Int64} {s0 : Nat} : am_run 265 104 [some (.ref l0), some (.long l1), none, none, none, none, none] [.ref s0] w = am_run 265 105 [some (.ref l0), some (.long l1), none, some (.ref s0), none, none, none] [] w := by
  refine (bu (ls'' := [some (.ref l0), some (.long l1), none, some (.ref s0), none, none, none]) (st' := []) bf265_104 bf265_105 rfl rfl).trans ?_
  rfl
theorem bk265_91 {w : am_Wd} {l0 : Nat} {l1 : Int64} {l3 : Int32} : am_run 265 91 [some (.ref l0), some (.long l1), none, some (.int l3), none, none, none] [] w = am_run 265 38 [some (.ref l0), some (.long l1), none, some (.int (l3 + (nI 1))), none, none, none] [] w := by
  refine (bu (ls'' := [some (.ref l0), some (.long l1), none, some (.int (l3 + (nI 1))), none, none, none]) (st' := []) bf265_91 bf265_94 rfl rfl).trans ?_
  refine (bu (ls'' := [some (.ref l0), some (.long l1), none, some (.int (l3 + (nI 1))), none, none, none]) (st' := []) bf265_94 bf265_38 rfl rfl).trans ?_
  rfl
theorem bk265_53 {w : am_Wd} {l0 : Nat} {l1 : Int64} {l3 : Int32} {l4 : Int32} : am_run 265 53 [some (.ref l0), some (.long l1), none, some (.int l3), some (.int l4), none, none] [] w = am_run 265 56 [some (.ref l0), some (.long l1), none, some (.int l3), some (.int l4), some (.int (nI 0)), none] [] w := by
  refine (bu (ls'' := [some (.ref l0), some (.long l1), none, some (.int l3), some (.int l4), none, none]) (st' := [.int (nI 0)]) bf265_53 bf265_54 rfl rfl).trans ?_
  refine (bu (ls'' := [some (.ref l0), some (.long l1), none, some (.int l3), some (.int l4), some (.int (nI 0)), none]) (st' := []) bf265_54 bf265_56 rfl rfl).trans ?_
  rfl
theorem bk265_105 {w : am_Wd} {l0 : Nat} {l1 : Int64} {l3 : Nat} : am_run 265 105 [some (.ref l0), some (.long l1), none, some (.ref l3), none, none, none] [] w = (am_kf w l3 2).bind fun _ => (am_x 52 [.ref l3] w).bind fun r => bct r fun v w' => am_run 265 111 [some (.ref l0), some (.long l1), none, some (.ref l3), none, none, none] (v.toList ++ []) w' := by
  refine (bu (ls'' := [some (.ref l0), some (.long l1), none, some (.ref l3), none, none, none]) (st' := [.ref l3]) bf265_105 bf265_106 rfl rfl).trans ?_
  exact bkV bf265_106 bf265_111 rfl (by decide +kernel) (Nat.le_of_ble_eq_true rfl) rfl (bhd rfl)
theorem bk265_56 {w : am_Wd} {l0 : Nat} {l1 : Int64} {l3 : Int32} {l4 : Int32} {l5 : Int32} : am_run 265 56 [some (.ref l0), some (.long l1), none, some (.int l3), some (.int l4), some (.int l5), none] [] w = if (nI 1) < l5 then am_run 265 85 [some (.ref l0), some (.long l1), none, some (.int l3), some (.int l4), none, none] [] w else am_run 265 62 [some (.ref l0), some (.long l1), none, some (.int l3), some (.int l4), some (.int l5), none] [] w := by
  refine (bu (ls'' := [some (.ref l0), some (.long l1), none, some (.int l3), some (.int l4), some (.int l5), none]) (st' := [.int l5]) bf265_56 bf265_58 rfl rfl).trans ?_
  refine (bu (ls'' := [some (.ref l0), some (.long l1), none, some (.int l3), some (.int l4), some (.int l5), none]) (st' := [.int (nI 1), .int l5]) bf265_58 bf265_59 rfl rfl).trans ?_
  exact bic bf265_59 rfl bf265_85 bf265_62 rfl rfl rfl
theorem bk265_111 {w : am_Wd} {l0 : Nat} {l1 : Int64} {l3 : Nat} {s0 : Int32} : am_run 265 111 [some (.ref l0), some (.long l1), none, some (.ref l3), none, none, none] [.int s0] w = if s0 = nI 0 then am_run 265 332 [some (.ref l0), some (.long l1), none, none, none, none, none] [] w else am_run 265 114 [some (.ref l0), some (.long l1), none, some (.ref l3), none, none, none] [] w := by
  exact bifc bf265_111 rfl bf265_332 bf265_114 rfl rfl rfl
theorem bk265_85 {w : am_Wd} {l0 : Nat} {l1 : Int64} {l3 : Int32} {l4 : Int32} : am_run 265 85 [some (.ref l0), some (.long l1), none, some (.int l3), some (.int l4), none, none] [] w = am_run 265 47 [some (.ref l0), some (.long l1), none, some (.int l3), some (.int (l4 + (nI 1))), none, none] [] w := by
  refine (bu (ls'' := [some (.ref l0), some (.long l1), none, some (.int l3), some (.int (l4 + (nI 1))), none, none]) (st' := []) bf265_85 bf265_88 rfl rfl).trans ?_
  refine (bu (ls'' := [some (.ref l0), some (.long l1), none, some (.int l3), some (.int (l4 + (nI 1))), none, none]) (st' := []) bf265_88 bf265_47 rfl rfl).trans ?_
  rfl
theorem bk265_62 {w : am_Wd} {l0 : Nat} {l1 : Int64} {l3 : Int32} {l4 : Int32} {l5 : Int32} : am_run 265 62 [some (.ref l0), some (.long l1), none, some (.int l3), some (.int l4), some (.int l5), none] [] w = (am_kf w l0 11).bind fun _ => (am_x 181 [.ref l0, .int l3, .int l4, .int l5] w).bind fun r => bct r fun v w' => am_run 265 76 [some (.ref l0), none, none, some (.int l3), some (.int l4), some (.int l5), none] (v.toList ++ [.long (l1 * (lN 31))]) w' := by
  refine (bu (ls'' := [some (.ref l0), none, none, some (.int l3), some (.int l4), some (.int l5), none]) (st' := [.long l1]) bf265_62 bf265_63 rfl rfl).trans ?_
  refine (bu (ls'' := [some (.ref l0), none, none, some (.int l3), some (.int l4), some (.int l5), none]) (st' := [.long (lN 31), .long l1]) bf265_63 bf265_66 rfl rfl).trans ?_
  refine (bu (ls'' := [some (.ref l0), none, none, some (.int l3), some (.int l4), some (.int l5), none]) (st' := [.long (l1 * (lN 31))]) bf265_66 bf265_67 rfl rfl).trans ?_
  refine (bu (ls'' := [some (.ref l0), none, none, some (.int l3), some (.int l4), some (.int l5), none]) (st' := [.ref l0, .long (l1 * (lN 31))]) bf265_67 bf265_68 rfl rfl).trans ?_
  refine (bu (ls'' := [some (.ref l0), none, none, some (.int l3), some (.int l4), some (.int l5), none]) (st' := [.int l3, .ref l0, .long (l1 * (lN 31))]) bf265_68 bf265_69 rfl rfl).trans ?_
  refine (bu (ls'' := [some (.ref l0), none, none, some (.int l3), some (.int l4), some (.int l5), none]) (st' := [.int l4, .int l3, .ref l0, .long (l1 * (lN 31))]) bf265_69 bf265_71 rfl rfl).trans ?_
  refine (bu (ls'' := [some (.ref l0), none, none, some (.int l3), some (.int l4), some (.int l5), none]) (st' := [.int l5, .int l4, .int l3, .ref l0, .long (l1 * (lN 31))]) bf265_71 bf265_73 rfl rfl).trans ?_
  exact bkV bf265_73 bf265_76 rfl (by decide +kernel) (Nat.le_of_ble_eq_true rfl) rfl (bhd rfl)
theorem bk265_332 {w : am_Wd} {l0 : Nat} {l1 : Int64} : am_run 265 332 [some (.ref l0), some (.long l1), none, none, none, none, none] [] w = (am_kf w l0 11).bind fun _ => (am_x 186 [.ref l0] w).bind fun r => bct r fun v w' => am_run 265 341 [none, none, none, none, none, none, none] (v.toList ++ [.long (l1 * (lN 31))]) w' := by
  refine (bu (ls'' := [some (.ref l0), none, none, none, none, none, none]) (st' := [.long l1]) bf265_332 bf265_333 rfl rfl).trans ?_
  refine (bu (ls'' := [some (.ref l0), none, none, none, none, none, none]) (st' := [.long (lN 31), .long l1]) bf265_333 bf265_336 rfl rfl).trans ?_
  refine (bu (ls'' := [some (.ref l0), none, none, none, none, none, none]) (st' := [.long (l1 * (lN 31))]) bf265_336 bf265_337 rfl rfl).trans ?_
  refine (bu (ls'' := [none, none, none, none, none, none, none]) (st' := [.ref l0, .long (l1 * (lN 31))]) bf265_337 bf265_338 rfl rfl).trans ?_
  exact bkV bf265_338 bf265_341 rfl (by decide +kernel) (Nat.le_of_ble_eq_true rfl) rfl (bhd rfl)
theorem bk265_114 {w : am_Wd} {l0 : Nat} {l1 : Int64} {l3 : Nat} : am_run 265 114 [some (.ref l0), some (.long l1), none, some (.ref l3), none, none, none] [] w = (am_kf w l3 2).bind fun _ => (am_x 103 [.ref l3] w).bind fun r => bct r fun v w' => am_run 265 120 [some (.ref l0), some (.long l1), none, some (.ref l3), none, none, none] (v.toList ++ []) w' := by
  refine (bu (ls'' := [some (.ref l0), some (.long l1), none, some (.ref l3), none, none, none]) (st' := [.ref l3]) bf265_114 bf265_115 rfl rfl).trans ?_
  exact bkV bf265_115 bf265_120 rfl (by decide +kernel) (Nat.le_of_ble_eq_true rfl) rfl (bhd rfl)
theorem bk265_76 {w : am_Wd} {l0 : Nat} {l3 : Int32} {l4 : Int32} {l5 : Int32} {s0 : Int32} {s1 : Int64} : am_run 265 76 [some (.ref l0), none, none, some (.int l3), some (.int l4), some (.int l5), none] [.int s0, .long s1] w = am_run 265 56 [some (.ref l0), some (.long (s1 + (Int32.toInt64 s0))), none, some (.int l3), some (.int l4), some (.int (l5 + (nI 1))), none] [] w := by
  refine (bu (ls'' := [some (.ref l0), none, none, some (.int l3), some (.int l4), some (.int l5), none]) (st' := [.long (Int32.toInt64 s0), .long s1]) bf265_76 bf265_77 rfl rfl).trans ?_
  refine (bu (ls'' := [some (.ref l0), none, none, some (.int l3), some (.int l4), some (.int l5), none]) (st' := [.long (s1 + (Int32.toInt64 s0))]) bf265_77 bf265_78 rfl rfl).trans ?_
  refine (bu (ls'' := [some (.ref l0), some (.long (s1 + (Int32.toInt64 s0))), none, some (.int l3), some (.int l4), some (.int l5), none]) (st' := []) bf265_78 bf265_79 rfl rfl).trans ?_
  refine (bu (ls'' := [some (.ref l0), some (.long (s1 + (Int32.toInt64 s0))), none, some (.int l3), some (.int l4), some (.int (l5 + (nI 1))), none]) (st' := []) bf265_79 bf265_82 rfl rfl).trans ?_
  refine (bu (ls'' := [some (.ref l0), some (.long (s1 + (Int32.toInt64 s0))), none, some (.int l3), some (.int l4), some (.int (l5 + (nI 1))), none]) (st' := []) bf265_82 bf265_56 rfl rfl).trans ?_
  rfl
theorem bk265_341 {w : am_Wd} {s0 : Int32} {s1 : Int64} : am_run 265 341 [none, none, none, none, none, none, none] [.int s0, .long s1] w = if s0 = nI 0 then am_run 265 348 [none, none, none, none, none, none, none] [.long s1] w else am_run 265 344 [none, none, none, none, none, none, none] [.long s1] w := by
  exact bifc bf265_341 rfl bf265_348 bf265_344 rfl rfl rfl
theorem bk265_120 {w : am_Wd} {l0 : Nat} {l1 : Int64} {l3 : Nat} {s0 : Nat} : am_run 265 120 [some (.ref l0), some (.long l1), none, some (.ref l3), none, none, none] [.ref s0] w = (am_kf w s0 10).bind fun _ => am_run 265 123 [some (.ref l0), some (.long l1), none, some (.ref l3), none, none, none] [.ref s0] w := by
  exact bh bf265_120 bf265_123 rfl (fun _ _ => am_ge_rf w) rfl
theorem bk265_348 {w : am_Wd} {s0 : Int64} : am_run 265 348 [none, none, none, none, none, none, none] [.long s0] w = am_run 265 349 [none, none, none, none, none, none, none] [.int (nI 0), .long s0] w := by
  refine (bu (ls'' := [none, none, none, none, none, none, none]) (st' := [.int (nI 0), .long s0]) bf265_348 bf265_349 rfl rfl).trans ?_
  rfl
theorem bk265_344 {w : am_Wd} {s0 : Int64} : am_run 265 344 [none, none, none, none, none, none, none] [.long s0] w = am_run 265 349 [none, none, none, none, none, none, none] [.int (nI 1), .long s0] w := by
  refine (bu (ls'' := [none, none, none, none, none, none, none]) (st' := [.int (nI 1), .long s0]) bf265_344 bf265_345 rfl rfl).trans ?_
  refine (bu (ls'' := [none, none, none, none, none, none, none]) (st' := [.int (nI 1), .long s0]) bf265_345 bf265_349 rfl rfl).trans ?_
  rfl
theorem bk265_123 {w : am_Wd} {l0 : Nat} {l1 : Int64} {l3 : Nat} {s0 : Nat} : am_run 265 123 [some (.ref l0), some (.long l1), none, some (.ref l3), none, none, none] [.ref s0] w = am_run 265 128 [some (.ref l0), some (.long l1), none, some (.ref l3), some (.ref s0), some (.int (nI 0)), none] [] w := by
  refine (bu (ls'' := [some (.ref l0), some (.long l1), none, some (.ref l3), some (.ref s0), none, none]) (st' := []) bf265_123 bf265_125 rfl rfl).trans ?_
  refine (bu (ls'' := [some (.ref l0), some (.long l1), none, some (.ref l3), some (.ref s0), none, none]) (st' := [.int (nI 0)]) bf265_125 bf265_126 rfl rfl).trans ?_
  refine (bu (ls'' := [some (.ref l0), some (.long l1), none, some (.ref l3), some (.ref s0), some (.int (nI 0)), none]) (st' := []) bf265_126 bf265_128 rfl rfl).trans ?_
  rfl
theorem bk265_349 {w : am_Wd} {s0 : Int32} {s1 : Int64} : am_run 265 349 [none, none, none, none, none, none, none] [.int s0, .long s1] w = some (.inl (some (.long (s1 + (Int32.toInt64 s0)))), w) := by
  refine (bu (ls'' := [none, none, none, none, none, none, none]) (st' := [.long (Int32.toInt64 s0), .long s1]) bf265_349 bf265_350 rfl rfl).trans ?_
  refine (bu (ls'' := [none, none, none, none, none, none, none]) (st' := [.long (s1 + (Int32.toInt64 s0))]) bf265_350 bf265_351 rfl rfl).trans ?_
  exact am_e2 bf265_351 rfl (am_ge_rf w)
theorem bk265_128 {w : am_Wd} {l0 : Nat} {l1 : Int64} {l3 : Nat} {l4 : Nat} {l5 : Int32} : am_run 265 128 [some (.ref l0), some (.long l1), none, some (.ref l3), some (.ref l4), some (.int l5), none] [] w = if (nI 12) < l5 then am_run 265 157 [some (.ref l0), some (.long l1), none, some (.ref l3), some (.ref l4), none, none] [] w else am_run 265 135 [some (.ref l0), some (.long l1), none, some (.ref l3), some (.ref l4), some (.int l5), none] [] w := by
  refine (bu (ls'' := [some (.ref l0), some (.long l1), none, some (.ref l3), some (.ref l4), some (.int l5), none]) (st' := [.int l5]) bf265_128 bf265_130 rfl rfl).trans ?_
  refine (bu (ls'' := [some (.ref l0), some (.long l1), none, some (.ref l3), some (.ref l4), some (.int l5), none]) (st' := [.int (nI 12), .int l5]) bf265_130 bf265_132 rfl rfl).trans ?_
  exact bic bf265_132 rfl bf265_157 bf265_135 rfl rfl rfl
theorem bk265_157 {w : am_Wd} {l0 : Nat} {l1 : Int64} {l3 : Nat} {l4 : Nat} : am_run 265 157 [some (.ref l0), some (.long l1), none, some (.ref l3), some (.ref l4), none, none] [] w = am_run 265 160 [some (.ref l0), some (.long l1), none, some (.ref l3), some (.ref l4), some (.int (nI 0)), none] [] w := by
  refine (bu (ls'' := [some (.ref l0), some (.long l1), none, some (.ref l3), some (.ref l4), none, none]) (st' := [.int (nI 0)]) bf265_157 bf265_158 rfl rfl).trans ?_
  refine (bu (ls'' := [some (.ref l0), some (.long l1), none, some (.ref l3), some (.ref l4), some (.int (nI 0)), none]) (st' := []) bf265_158 bf265_160 rfl rfl).trans ?_
  rfl
theorem bk265_135 {w : am_Wd} {l0 : Nat} {l1 : Int64} {l3 : Nat} {l4 : Nat} {l5 : Int32} : am_run 265 135 [some (.ref l0), some (.long l1), none, some (.ref l3), some (.ref l4), some (.int l5), none] [] w = (am_kf w l0 11).bind fun _ => (am_x 146 [.ref l0, .ref l4, .int l5] w).bind fun r => bct r fun v w' => am_run 265 148 [some (.ref l0), none, none, some (.ref l3), some (.ref l4), some (.int l5), none] (v.toList ++ [.long (l1 * (lN 31))]) w' := by
  refine (bu (ls'' := [some (.ref l0), none, none, some (.ref l3), some (.ref l4), some (.int l5), none]) (st' := [.long l1]) bf265_135 bf265_136 rfl rfl).trans ?_
  refine (bu (ls'' := [some (.ref l0), none, none, some (.ref l3), some (.ref l4), some (.int l5), none]) (st' := [.long (lN 31), .long l1]) bf265_136 bf265_139 rfl rfl).trans ?_
  refine (bu (ls'' := [some (.ref l0), none, none, some (.ref l3), some (.ref l4), some (.int l5), none]) (st' := [.long (l1 * (lN 31))]) bf265_139 bf265_140 rfl rfl).trans ?_
  refine (bu (ls'' := [some (.ref l0), none, none, some (.ref l3), some (.ref l4), some (.int l5), none]) (st' := [.ref l0, .long (l1 * (lN 31))]) bf265_140 bf265_141 rfl rfl).trans ?_
  refine (bu (ls'' := [some (.ref l0), none, none, some (.ref l3), some (.ref l4), some (.int l5), none]) (st' := [.ref l4, .ref l0, .long (l1 * (lN 31))]) bf265_141 bf265_143 rfl rfl).trans ?_
  refine (bu (ls'' := [some (.ref l0), none, none, some (.ref l3), some (.ref l4), some (.int l5), none]) (st' := [.int l5, .ref l4, .ref l0, .long (l1 * (lN 31))]) bf265_143 bf265_145 rfl rfl).trans ?_
  exact bkV bf265_145 bf265_148 rfl (by decide +kernel) (Nat.le_of_ble_eq_true rfl) rfl (bhd rfl)
theorem bk265_160 {w : am_Wd} {l0 : Nat} {l1 : Int64} {l3 : Nat} {l4 : Nat} {l5 : Int32} : am_run 265 160 [some (.ref l0), some (.long l1), none, some (.ref l3), some (.ref l4), some (.int l5), none] [] w = if (nI 4) ≤ l5 then am_run 265 187 [some (.ref l0), some (.long l1), none, some (.ref l3), some (.ref l4), none, none] [] w else am_run 265 166 [some (.ref l0), some (.long l1), none, some (.ref l3), some (.ref l4), some (.int l5), none] [] w := by
  refine (bu (ls'' := [some (.ref l0), some (.long l1), none, some (.ref l3), some (.ref l4), some (.int l5), none]) (st' := [.int l5]) bf265_160 bf265_162 rfl rfl).trans ?_
  refine (bu (ls'' := [some (.ref l0), some (.long l1), none, some (.ref l3), some (.ref l4), some (.int l5), none]) (st' := [.int (nI 4), .int l5]) bf265_162 bf265_163 rfl rfl).trans ?_
  exact bic bf265_163 rfl bf265_187 bf265_166 rfl rfl rfl
theorem bk265_148 {w : am_Wd} {l0 : Nat} {l3 : Nat} {l4 : Nat} {l5 : Int32} {s0 : Int32} {s1 : Int64} : am_run 265 148 [some (.ref l0), none, none, some (.ref l3), some (.ref l4), some (.int l5), none] [.int s0, .long s1] w = am_run 265 128 [some (.ref l0), some (.long (s1 + (Int32.toInt64 s0))), none, some (.ref l3), some (.ref l4), some (.int (l5 + (nI 1))), none] [] w := by
  refine (bu (ls'' := [some (.ref l0), none, none, some (.ref l3), some (.ref l4), some (.int l5), none]) (st' := [.long (Int32.toInt64 s0), .long s1]) bf265_148 bf265_149 rfl rfl).trans ?_
  refine (bu (ls'' := [some (.ref l0), none, none, some (.ref l3), some (.ref l4), some (.int l5), none]) (st' := [.long (s1 + (Int32.toInt64 s0))]) bf265_149 bf265_150 rfl rfl).trans ?_
  refine (bu (ls'' := [some (.ref l0), some (.long (s1 + (Int32.toInt64 s0))), none, some (.ref l3), some (.ref l4), some (.int l5), none]) (st' := []) bf265_150 bf265_151 rfl rfl).trans ?_
  refine (bu (ls'' := [some (.ref l0), some (.long (s1 + (Int32.toInt64 s0))), none, some (.ref l3), some (.ref l4), some (.int (l5 + (nI 1))), none]) (st' := []) bf265_151 bf265_154 rfl rfl).trans ?_
  refine (bu (ls'' := [some (.ref l0), some (.long (s1 + (Int32.toInt64 s0))), none, some (.ref l3), some (.ref l4), some (.int (l5 + (nI 1))), none]) (st' := []) bf265_154 bf265_128 rfl rfl).trans ?_
  rfl
theorem bk265_187 {w : am_Wd} {l0 : Nat} {l1 : Int64} {l3 : Nat} {l4 : Nat} : am_run 265 187 [some (.ref l0), some (.long l1), none, some (.ref l3), some (.ref l4), none, none] [] w = am_run 265 190 [some (.ref l0), some (.long l1), none, some (.ref l3), some (.ref l4), some (.int (nI 0)), none] [] w := by
  refine (bu (ls'' := [some (.ref l0), some (.long l1), none, some (.ref l3), some (.ref l4), none, none]) (st' := [.int (nI 0)]) bf265_187 bf265_188 rfl rfl).trans ?_
  refine (bu (ls'' := [some (.ref l0), some (.long l1), none, some (.ref l3), some (.ref l4), some (.int (nI 0)), none]) (st' := []) bf265_188 bf265_190 rfl rfl).trans ?_
  rfl
theorem bk265_166 {w : am_Wd} {l0 : Nat} {l1 : Int64} {l3 : Nat} {l4 : Nat} {l5 : Int32} : am_run 265 166 [some (.ref l0), some (.long l1), none, some (.ref l3), some (.ref l4), some (.int l5), none] [] w = (am_kf w l0 11).bind fun _ => (am_x 48 [.ref l0, .ref l4, .int l5] w).bind fun r => bct r fun v w' => am_run 265 179 [some (.ref l0), none, none, some (.ref l3), some (.ref l4), some (.int l5), none] (v.toList ++ [.long (l1 * (lN 31))]) w' := by
  refine (bu (ls'' := [some (.ref l0), none, none, some (.ref l3), some (.ref l4), some (.int l5), none]) (st' := [.long l1]) bf265_166 bf265_167 rfl rfl).trans ?_
  refine (bu (ls'' := [some (.ref l0), none, none, some (.ref l3), some (.ref l4), some (.int l5), none]) (st' := [.long (lN 31), .long l1]) bf265_167 bf265_170 rfl rfl).trans ?_
  refine (bu (ls'' := [some (.ref l0), none, none, some (.ref l3), some (.ref l4), some (.int l5), none]) (st' := [.long (l1 * (lN 31))]) bf265_170 bf265_171 rfl rfl).trans ?_
  refine (bu (ls'' := [some (.ref l0), none, none, some (.ref l3), some (.ref l4), some (.int l5), none]) (st' := [.ref l0, .long (l1 * (lN 31))]) bf265_171 bf265_172 rfl rfl).trans ?_
  refine (bu (ls'' := [some (.ref l0), none, none, some (.ref l3), some (.ref l4), some (.int l5), none]) (st' := [.ref l4, .ref l0, .long (l1 * (lN 31))]) bf265_172 bf265_174 rfl rfl).trans ?_
  refine (bu (ls'' := [some (.ref l0), none, none, some (.ref l3), some (.ref l4), some (.int l5), none]) (st' := [.int l5, .ref l4, .ref l0, .long (l1 * (lN 31))]) bf265_174 bf265_176 rfl rfl).trans ?_
  exact bkV bf265_176 bf265_179 rfl (by decide +kernel) (Nat.le_of_ble_eq_true rfl) rfl (bhd rfl)
theorem bk265_190 {w : am_Wd} {l0 : Nat} {l1 : Int64} {l3 : Nat} {l4 : Nat} {l5 : Int32} : am_run 265 190 [some (.ref l0), some (.long l1), none, some (.ref l3), some (.ref l4), some (.int l5), none] [] w = if (nI 3) < l5 then am_run 265 218 [some (.ref l0), some (.long l1), none, some (.ref l3), some (.ref l4), none, none] [] w else am_run 265 196 [some (.ref l0), some (.long l1), none, some (.ref l3), some (.ref l4), some (.int l5), none] [] w := by
  refine (bu (ls'' := [some (.ref l0), some (.long l1), none, some (.ref l3), some (.ref l4), some (.int l5), none]) (st' := [.int l5]) bf265_190 bf265_192 rfl rfl).trans ?_
  refine (bu (ls'' := [some (.ref l0), some (.long l1), none, some (.ref l3), some (.ref l4), some (.int l5), none]) (st' := [.int (nI 3), .int l5]) bf265_192 bf265_193 rfl rfl).trans ?_
  exact bic bf265_193 rfl bf265_218 bf265_196 rfl rfl rfl
theorem bk265_179 {w : am_Wd} {l0 : Nat} {l3 : Nat} {l4 : Nat} {l5 : Int32} {s0 : Int64} {s1 : Int64} : am_run 265 179 [some (.ref l0), none, none, some (.ref l3), some (.ref l4), some (.int l5), none] [.long s0, .long s1] w = am_run 265 160 [some (.ref l0), some (.long (s1 + s0)), none, some (.ref l3), some (.ref l4), some (.int (l5 + (nI 1))), none] [] w := by
  refine (bu (ls'' := [some (.ref l0), none, none, some (.ref l3), some (.ref l4), some (.int l5), none]) (st' := [.long (s1 + s0)]) bf265_179 bf265_180 rfl rfl).trans ?_
  refine (bu (ls'' := [some (.ref l0), some (.long (s1 + s0)), none, some (.ref l3), some (.ref l4), some (.int l5), none]) (st' := []) bf265_180 bf265_181 rfl rfl).trans ?_
  refine (bu (ls'' := [some (.ref l0), some (.long (s1 + s0)), none, some (.ref l3), some (.ref l4), some (.int (l5 + (nI 1))), none]) (st' := []) bf265_181 bf265_184 rfl rfl).trans ?_
  refine (bu (ls'' := [some (.ref l0), some (.long (s1 + s0)), none, some (.ref l3), some (.ref l4), some (.int (l5 + (nI 1))), none]) (st' := []) bf265_184 bf265_160 rfl rfl).trans ?_
  rfl
theorem bk265_218 {w : am_Wd} {l0 : Nat} {l1 : Int64} {l3 : Nat} {l4 : Nat} : am_run 265 218 [some (.ref l0), some (.long l1), none, some (.ref l3), some (.ref l4), none, none] [] w = am_run 265 221 [some (.ref l0), some (.long l1), none, some (.ref l3), some (.ref l4), some (.int (nI 0)), none] [] w := by
  refine (bu (ls'' := [some (.ref l0), some (.long l1), none, some (.ref l3), some (.ref l4), none, none]) (st' := [.int (nI 0)]) bf265_218 bf265_219 rfl rfl).trans ?_
  refine (bu (ls'' := [some (.ref l0), some (.long l1), none, some (.ref l3), some (.ref l4), some (.int (nI 0)), none]) (st' := []) bf265_219 bf265_221 rfl rfl).trans ?_
  rfl
theorem bk265_196 {w : am_Wd} {l0 : Nat} {l1 : Int64} {l3 : Nat} {l4 : Nat} {l5 : Int32} : am_run 265 196 [some (.ref l0), some (.long l1), none, some (.ref l3), some (.ref l4), some (.int l5), none] [] w = (am_kf w l0 11).bind fun _ => (am_x 259 [.ref l0, .ref l4, .int l5] w).bind fun r => bct r fun v w' => am_run 265 209 [some (.ref l0), none, none, some (.ref l3), some (.ref l4), some (.int l5), none] (v.toList ++ [.long (l1 * (lN 31))]) w' := by
  refine (bu (ls'' := [some (.ref l0), none, none, some (.ref l3), some (.ref l4), some (.int l5), none]) (st' := [.long l1]) bf265_196 bf265_197 rfl rfl).trans ?_
  refine (bu (ls'' := [some (.ref l0), none, none, some (.ref l3), some (.ref l4), some (.int l5), none]) (st' := [.long (lN 31), .long l1]) bf265_197 bf265_200 rfl rfl).trans ?_
  refine (bu (ls'' := [some (.ref l0), none, none, some (.ref l3), some (.ref l4), some (.int l5), none]) (st' := [.long (l1 * (lN 31))]) bf265_200 bf265_201 rfl rfl).trans ?_
  refine (bu (ls'' := [some (.ref l0), none, none, some (.ref l3), some (.ref l4), some (.int l5), none]) (st' := [.ref l0, .long (l1 * (lN 31))]) bf265_201 bf265_202 rfl rfl).trans ?_
  refine (bu (ls'' := [some (.ref l0), none, none, some (.ref l3), some (.ref l4), some (.int l5), none]) (st' := [.ref l4, .ref l0, .long (l1 * (lN 31))]) bf265_202 bf265_204 rfl rfl).trans ?_
  refine (bu (ls'' := [some (.ref l0), none, none, some (.ref l3), some (.ref l4), some (.int l5), none]) (st' := [.int l5, .ref l4, .ref l0, .long (l1 * (lN 31))]) bf265_204 bf265_206 rfl rfl).trans ?_
  exact bkV bf265_206 bf265_209 rfl (by decide +kernel) (Nat.le_of_ble_eq_true rfl) rfl (bhd rfl)
theorem bk265_221 {w : am_Wd} {l0 : Nat} {l1 : Int64} {l3 : Nat} {l4 : Nat} {l5 : Int32} : am_run 265 221 [some (.ref l0), some (.long l1), none, some (.ref l3), some (.ref l4), some (.int l5), none] [] w = if (nI 3) < l5 then am_run 265 249 [some (.ref l0), some (.long l1), none, some (.ref l3), some (.ref l4), none, none] [] w else am_run 265 227 [some (.ref l0), some (.long l1), none, some (.ref l3), some (.ref l4), some (.int l5), none] [] w := by
  refine (bu (ls'' := [some (.ref l0), some (.long l1), none, some (.ref l3), some (.ref l4), some (.int l5), none]) (st' := [.int l5]) bf265_221 bf265_223 rfl rfl).trans ?_
  refine (bu (ls'' := [some (.ref l0), some (.long l1), none, some (.ref l3), some (.ref l4), some (.int l5), none]) (st' := [.int (nI 3), .int l5]) bf265_223 bf265_224 rfl rfl).trans ?_
  exact bic bf265_224 rfl bf265_249 bf265_227 rfl rfl rfl
theorem bk265_209 {w : am_Wd} {l0 : Nat} {l3 : Nat} {l4 : Nat} {l5 : Int32} {s0 : Int32} {s1 : Int64} : am_run 265 209 [some (.ref l0), none, none, some (.ref l3), some (.ref l4), some (.int l5), none] [.int s0, .long s1] w = am_run 265 190 [some (.ref l0), some (.long (s1 + (Int32.toInt64 s0))), none, some (.ref l3), some (.ref l4), some (.int (l5 + (nI 1))), none] [] w := by
  refine (bu (ls'' := [some (.ref l0), none, none, some (.ref l3), some (.ref l4), some (.int l5), none]) (st' := [.long (Int32.toInt64 s0), .long s1]) bf265_209 bf265_210 rfl rfl).trans ?_
  refine (bu (ls'' := [some (.ref l0), none, none, some (.ref l3), some (.ref l4), some (.int l5), none]) (st' := [.long (s1 + (Int32.toInt64 s0))]) bf265_210 bf265_211 rfl rfl).trans ?_
  refine (bu (ls'' := [some (.ref l0), some (.long (s1 + (Int32.toInt64 s0))), none, some (.ref l3), some (.ref l4), some (.int l5), none]) (st' := []) bf265_211 bf265_212 rfl rfl).trans ?_
  refine (bu (ls'' := [some (.ref l0), some (.long (s1 + (Int32.toInt64 s0))), none, some (.ref l3), some (.ref l4), some (.int (l5 + (nI 1))), none]) (st' := []) bf265_212 bf265_215 rfl rfl).trans ?_
  refine (bu (ls'' := [some (.ref l0), some (.long (s1 + (Int32.toInt64 s0))), none, some (.ref l3), some (.ref l4), some (.int (l5 + (nI 1))), none]) (st' := []) bf265_215 bf265_190 rfl rfl).trans ?_
  rfl
theorem bk265_249 {w : am_Wd} {l0 : Nat} {l1 : Int64} {l3 : Nat} {l4 : Nat} : am_run 265 249 [some (.ref l0), some (.long l1), none, some (.ref l3), some (.ref l4), none, none] [] w = (am_kf w l0 11).bind fun _ => (am_x 248 [.ref l0, .ref l4] w).bind fun r => bct r fun v w' => am_run 265 260 [some (.ref l0), none, none, some (.ref l3), some (.ref l4), none, none] (v.toList ++ [.long (l1 * (lN 31))]) w' := by
  refine (bu (ls'' := [some (.ref l0), none, none, some (.ref l3), some (.ref l4), none, none]) (st' := [.long l1]) bf265_249 bf265_250 rfl rfl).trans ?_
  refine (bu (ls'' := [some (.ref l0), none, none, some (.ref l3), some (.ref l4), none, none]) (st' := [.long (lN 31), .long l1]) bf265_250 bf265_253 rfl rfl).trans ?_
  refine (bu (ls'' := [some (.ref l0), none, none, some (.ref l3), some (.ref l4), none, none]) (st' := [.long (l1 * (lN 31))]) bf265_253 bf265_254 rfl rfl).trans ?_
  refine (bu (ls'' := [some (.ref l0), none, none, some (.ref l3), some (.ref l4), none, none]) (st' := [.ref l0, .long (l1 * (lN 31))]) bf265_254 bf265_255 rfl rfl).trans ?_
  refine (bu (ls'' := [some (.ref l0), none, none, some (.ref l3), some (.ref l4), none, none]) (st' := [.ref l4, .ref l0, .long (l1 * (lN 31))]) bf265_255 bf265_257 rfl rfl).trans ?_
  exact bkV bf265_257 bf265_260 rfl (by decide +kernel) (Nat.le_of_ble_eq_true rfl) rfl (bhd rfl)
theorem bk265_227 {w : am_Wd} {l0 : Nat} {l1 : Int64} {l3 : Nat} {l4 : Nat} {l5 : Int32} : am_run 265 227 [some (.ref l0), some (.long l1), none, some (.ref l3), some (.ref l4), some (.int l5), none] [] w = (am_kf w l0 11).bind fun _ => (am_x 230 [.ref l0, .ref l4, .int l5] w).bind fun r => bct r fun v w' => am_run 265 240 [some (.ref l0), none, none, some (.ref l3), some (.ref l4), some (.int l5), none] (v.toList ++ [.long (l1 * (lN 31))]) w' := by
  refine (bu (ls'' := [some (.ref l0), none, none, some (.ref l3), some (.ref l4), some (.int l5), none]) (st' := [.long l1]) bf265_227 bf265_228 rfl rfl).trans ?_
  refine (bu (ls'' := [some (.ref l0), none, none, some (.ref l3), some (.ref l4), some (.int l5), none]) (st' := [.long (lN 31), .long l1]) bf265_228 bf265_231 rfl rfl).trans ?_
  refine (bu (ls'' := [some (.ref l0), none, none, some (.ref l3), some (.ref l4), some (.int l5), none]) (st' := [.long (l1 * (lN 31))]) bf265_231 bf265_232 rfl rfl).trans ?_
  refine (bu (ls'' := [some (.ref l0), none, none, some (.ref l3), some (.ref l4), some (.int l5), none]) (st' := [.ref l0, .long (l1 * (lN 31))]) bf265_232 bf265_233 rfl rfl).trans ?_
  refine (bu (ls'' := [some (.ref l0), none, none, some (.ref l3), some (.ref l4), some (.int l5), none]) (st' := [.ref l4, .ref l0, .long (l1 * (lN 31))]) bf265_233 bf265_235 rfl rfl).trans ?_
  refine (bu (ls'' := [some (.ref l0), none, none, some (.ref l3), some (.ref l4), some (.int l5), none]) (st' := [.int l5, .ref l4, .ref l0, .long (l1 * (lN 31))]) bf265_235 bf265_237 rfl rfl).trans ?_
  exact bkV bf265_237 bf265_240 rfl (by decide +kernel) (Nat.le_of_ble_eq_true rfl) rfl (bhd rfl)
