/-! RULES of what strings need (laid by wip/gen/rules.py). Mine. -/
theorem bge_cy {w : am_Wd} {a0 a : Nat} {sp dp n : Int32} : ∀ w', am_cy w a0 sp a dp n = some w' → am_ge w w' := by
  intro w' h
  unfold am_cy at h
  split at h
  · split at h
    · cases h; exact am_ge_rf _
    · cases h
  · cases h
theorem bf59_0 : am_fetch (am_mth 59) 0 = some (.getstatic 38, 3, [0, 1, 1058], []) := by decide +kernel
theorem bf59_3 : am_fetch (am_mth 59) 3 = some (.ifCond .eq 10, 3, [], []) := by decide +kernel
theorem bf59_6 : am_fetch (am_mth 59) 6 = some (.aload_n 0, 1, [], []) := by decide +kernel
theorem bf59_7 : am_fetch (am_mth 59) 7 = some (.getfield 15, 3, [0, 0, 1, 1090], [0]) := by decide +kernel
theorem bf59_10 : am_fetch (am_mth 59) 10 = some (.goto 4, 3, [], [0]) := by decide +kernel
theorem bf59_13 : am_fetch (am_mth 59) 13 = some (.iconst 1, 1, [], [0]) := by decide +kernel
theorem bf59_14 : am_fetch (am_mth 59) 14 = some (.ireturn, 1, [3], [0]) := by decide +kernel
theorem bk59_0 {w : am_Wd} {l0 : Nat} : am_run 59 0 [some (.ref l0)] [] w = if (nI 1) = nI 0 then am_run 59 13 [none] [] w else am_run 59 6 [some (.ref l0)] [] w := by
  refine (bu (ls'' := [some (.ref l0)]) (st' := [.int (nI 1)]) bf59_0 bf59_3 rfl rfl).trans ?_
  exact bifc bf59_3 rfl bf59_13 bf59_6 rfl rfl rfl
theorem bk59_13 {w : am_Wd}  : am_run 59 13 [none] [] w = am_run 59 14 [none] [.int (nI 1)] w := by
  refine (bu (ls'' := [none]) (st' := [.int (nI 1)]) bf59_13 bf59_14 rfl rfl).trans ?_
  rfl
theorem bk59_6 {w : am_Wd} {l0 : Nat} : am_run 59 6 [some (.ref l0)] [] w = (am_gf w l0 0 1).bind fun v => am_run 59 10 [none] (v :: []) w := by
  refine (bu (ls'' := [none]) (st' := [.ref l0]) bf59_6 bf59_7 rfl rfl).trans ?_
  exact bh bf59_7 bf59_10 rfl (fun _ _ => am_ge_rf w) rfl
theorem bk59_14 {w : am_Wd} {s0 : Int32} (hb : am_ok (am_rt 3) (.int s0) = true) : am_run 59 14 [none] [.int s0] w = some (.inl (some (.int s0)), w) := by
  exact am_e2 bf59_14 (by unfold am_stp; exact if_pos ⟨by decide, hb⟩) (am_ge_rf w)
theorem bk59_10 {w : am_Wd} {s0 : Int32} : am_run 59 10 [none] [.int s0] w = am_run 59 14 [none] [.int s0] w := by
  refine (bu (ls'' := [none]) (st' := [.int s0]) bf59_10 bf59_14 rfl rfl).trans ?_
  rfl
theorem bf60_0 : am_fetch (am_mth 60) 0 = some (.aload_n 0, 1, [], []) := by decide +kernel
theorem bf60_1 : am_fetch (am_mth 60) 1 = some (.invokespecial 1, 3, [1, 974, 85, 86], []) := by decide +kernel
theorem bf60_4 : am_fetch (am_mth 60) 4 = some (.aload_n 0, 1, [], []) := by decide +kernel
theorem bf60_5 : am_fetch (am_mth 60) 5 = some (.aload_n 1, 1, [], []) := by decide +kernel
theorem bf60_6 : am_fetch (am_mth 60) 6 = some (.putfield 9, 3, [0, 0, 0, 1089], [1]) := by decide +kernel
theorem bf60_9 : am_fetch (am_mth 60) 9 = some (.aload_n 0, 1, [], [1]) := by decide +kernel
theorem bf60_10 : am_fetch (am_mth 60) 10 = some (.iload_n 2, 1, [], [0, 1]) := by decide +kernel
theorem bf60_11 : am_fetch (am_mth 60) 11 = some (.putfield 15, 3, [0, 0, 1, 1090], [0, 1, 2]) := by decide +kernel
theorem bf60_14 : am_fetch (am_mth 60) 14 = some (.return_, 1, [], [0, 1, 2]) := by decide +kernel
theorem bk60_0 {w : am_Wd} {l0 : Nat} {l1 : Nat} {l2 : Int32} : am_run 60 0 [some (.ref l0), some (.ref l1), some (.int l2)] [] w = (am_pf w l0 0 0 (.ref l1)).bind fun w' => am_run 60 9 [some (.ref l0), none, some (.int l2)] [] w' := by
  refine (bu (ls'' := [some (.ref l0), some (.ref l1), some (.int l2)]) (st' := [.ref l0]) bf60_0 bf60_1 rfl rfl).trans ?_
  refine (bu (ls'' := [some (.ref l0), some (.ref l1), some (.int l2)]) (st' := []) bf60_1 bf60_4 rfl rfl).trans ?_
  refine (bu (ls'' := [some (.ref l0), some (.ref l1), some (.int l2)]) (st' := [.ref l0]) bf60_4 bf60_5 rfl rfl).trans ?_
  refine (bu (ls'' := [some (.ref l0), none, some (.int l2)]) (st' := [.ref l1, .ref l0]) bf60_5 bf60_6 rfl rfl).trans ?_
  exact bh bf60_6 bf60_9 rfl (bge_pf) rfl
theorem bk60_9 {w : am_Wd} {l0 : Nat} {l2 : Int32} (hb : am_ok (am_ty 0 1) (.int l2) = true) : am_run 60 9 [some (.ref l0), none, some (.int l2)] [] w = (am_pf w l0 0 1 (.int l2)).bind fun w' => am_run 60 14 [none, none, none] [] w' := by
  refine (bu (ls'' := [none, none, some (.int l2)]) (st' := [.ref l0]) bf60_9 bf60_10 rfl rfl).trans ?_
  refine (bu (ls'' := [none, none, none]) (st' := [.int l2, .ref l0]) bf60_10 bf60_11 rfl rfl).trans ?_
  exact bh bf60_11 bf60_14 (by unfold am_stp; exact if_pos hb) (bge_pf) rfl
theorem bk60_14 {w : am_Wd}  : am_run 60 14 [none, none, none] [] w = some (.inl none, w) := by
  exact am_e2 bf60_14 rfl (am_ge_rf w)
theorem bf61_0 : am_fetch (am_mth 61) 0 = some (.getstatic 38, 3, [0, 1, 1058], []) := by decide +kernel
theorem bf61_3 : am_fetch (am_mth 61) 3 = some (.ifCond .eq 14, 3, [], []) := by decide +kernel
theorem bf61_6 : am_fetch (am_mth 61) 6 = some (.aload_n 0, 1, [], []) := by decide +kernel
theorem bf61_7 : am_fetch (am_mth 61) 7 = some (.getfield 15, 3, [0, 0, 1, 1090], [0]) := by decide +kernel
theorem bf61_10 : am_fetch (am_mth 61) 10 = some (.ifCond .ne 7, 3, [], [0]) := by decide +kernel
theorem bf61_13 : am_fetch (am_mth 61) 13 = some (.iconst 1, 1, [], [0]) := by decide +kernel
theorem bf61_14 : am_fetch (am_mth 61) 14 = some (.goto 4, 3, [], [0]) := by decide +kernel
theorem bf61_17 : am_fetch (am_mth 61) 17 = some (.iconst 0, 1, [], [0]) := by decide +kernel
theorem bf61_18 : am_fetch (am_mth 61) 18 = some (.ireturn, 1, [1], [0]) := by decide +kernel
theorem bk61_0 {w : am_Wd} {l0 : Nat} : am_run 61 0 [some (.ref l0)] [] w = if (nI 1) = nI 0 then am_run 61 17 [none] [] w else am_run 61 6 [some (.ref l0)] [] w := by
  refine (bu (ls'' := [some (.ref l0)]) (st' := [.int (nI 1)]) bf61_0 bf61_3 rfl rfl).trans ?_
  exact bifc bf61_3 rfl bf61_17 bf61_6 rfl rfl rfl
theorem bk61_17 {w : am_Wd}  : am_run 61 17 [none] [] w = am_run 61 18 [none] [.int (nI 0)] w := by
  refine (bu (ls'' := [none]) (st' := [.int (nI 0)]) bf61_17 bf61_18 rfl rfl).trans ?_
  rfl
theorem bk61_6 {w : am_Wd} {l0 : Nat} : am_run 61 6 [some (.ref l0)] [] w = (am_gf w l0 0 1).bind fun v => am_run 61 10 [none] (v :: []) w := by
  refine (bu (ls'' := [none]) (st' := [.ref l0]) bf61_6 bf61_7 rfl rfl).trans ?_
  exact bh bf61_7 bf61_10 rfl (fun _ _ => am_ge_rf w) rfl
theorem bk61_18 {w : am_Wd} {s0 : Int32} (hb : am_ok (am_rt 1) (.int s0) = true) : am_run 61 18 [none] [.int s0] w = some (.inl (some (.int s0)), w) := by
  exact am_e2 bf61_18 (by unfold am_stp; exact if_pos ⟨by decide, hb⟩) (am_ge_rf w)
theorem bk61_10 {w : am_Wd} {s0 : Int32} : am_run 61 10 [none] [.int s0] w = if ¬ s0 = nI 0 then am_run 61 17 [none] [] w else am_run 61 13 [none] [] w := by
  exact bifc bf61_10 rfl bf61_17 bf61_13 rfl rfl rfl
theorem bk61_13 {w : am_Wd}  : am_run 61 13 [none] [] w = am_run 61 18 [none] [.int (nI 1)] w := by
  refine (bu (ls'' := [none]) (st' := [.int (nI 1)]) bf61_13 bf61_14 rfl rfl).trans ?_
  refine (bu (ls'' := [none]) (st' := [.int (nI 1)]) bf61_14 bf61_18 rfl rfl).trans ?_
  rfl
theorem bf62_0 : am_fetch (am_mth 62) 0 = some (.iload_n 0, 1, [], []) := by decide +kernel
theorem bf62_1 : am_fetch (am_mth 62) 1 = some (.sipush 255, 3, [], [0]) := by decide +kernel
theorem bf62_4 : am_fetch (am_mth 62) 4 = some (.if_icmp .gt 7, 3, [], [0]) := by decide +kernel
theorem bf62_7 : am_fetch (am_mth 62) 7 = some (.iconst 1, 1, [], [0]) := by decide +kernel
theorem bf62_8 : am_fetch (am_mth 62) 8 = some (.goto 4, 3, [], [0]) := by decide +kernel
theorem bf62_11 : am_fetch (am_mth 62) 11 = some (.iconst 0, 1, [], [0]) := by decide +kernel
theorem bf62_12 : am_fetch (am_mth 62) 12 = some (.ireturn, 1, [1], [0]) := by decide +kernel
theorem bk62_0 {w : am_Wd} {l0 : Int32} : am_run 62 0 [some (.int l0)] [] w = if (nI 255) < l0 then am_run 62 11 [none] [] w else am_run 62 7 [none] [] w := by
  refine (bu (ls'' := [none]) (st' := [.int l0]) bf62_0 bf62_1 rfl rfl).trans ?_
  refine (bu (ls'' := [none]) (st' := [.int (nI 255), .int l0]) bf62_1 bf62_4 rfl rfl).trans ?_
  exact bic bf62_4 rfl bf62_11 bf62_7 rfl rfl rfl
theorem bk62_11 {w : am_Wd}  : am_run 62 11 [none] [] w = am_run 62 12 [none] [.int (nI 0)] w := by
  refine (bu (ls'' := [none]) (st' := [.int (nI 0)]) bf62_11 bf62_12 rfl rfl).trans ?_
  rfl
theorem bk62_7 {w : am_Wd}  : am_run 62 7 [none] [] w = am_run 62 12 [none] [.int (nI 1)] w := by
  refine (bu (ls'' := [none]) (st' := [.int (nI 1)]) bf62_7 bf62_8 rfl rfl).trans ?_
  refine (bu (ls'' := [none]) (st' := [.int (nI 1)]) bf62_8 bf62_12 rfl rfl).trans ?_
  rfl
theorem bk62_12 {w : am_Wd} {s0 : Int32} (hb : am_ok (am_rt 1) (.int s0) = true) : am_run 62 12 [none] [.int s0] w = some (.inl (some (.int s0)), w) := by
  exact am_e2 bf62_12 (by unfold am_stp; exact if_pos ⟨by decide, hb⟩) (am_ge_rf w)
theorem bf63_0 : am_fetch (am_mth 63) 0 = some (.aload_n 0, 1, [], [2]) := by decide +kernel
theorem bf63_1 : am_fetch (am_mth 63) 1 = some (.getfield 15, 3, [0, 1, 0, 853], [2]) := by decide +kernel
theorem bf63_4 : am_fetch (am_mth 63) 4 = some (.arraylength, 1, [], [2]) := by decide +kernel
theorem bf63_5 : am_fetch (am_mth 63) 5 = some (.aload_n 0, 1, [], [2]) := by decide +kernel
theorem bf63_6 : am_fetch (am_mth 63) 6 = some (.getfield 22, 3, [0, 1, 1, 854], [2]) := by decide +kernel
theorem bf63_9 : am_fetch (am_mth 63) 9 = some (.ishr, 1, [], [2]) := by decide +kernel
theorem bf63_10 : am_fetch (am_mth 63) 10 = some (.istore_n 2, 1, [], [2]) := by decide +kernel
theorem bf63_11 : am_fetch (am_mth 63) 11 = some (.iload_n 1, 1, [], []) := by decide +kernel
theorem bf63_12 : am_fetch (am_mth 63) 12 = some (.iload_n 2, 1, [], []) := by decide +kernel
theorem bf63_13 : am_fetch (am_mth 63) 13 = some (.isub, 1, [], [2]) := by decide +kernel
theorem bf63_14 : am_fetch (am_mth 63) 14 = some (.ifCond .le 24, 3, [], [2]) := by decide +kernel
theorem bf63_17 : am_fetch (am_mth 63) 17 = some (.aload_n 0, 1, [], [2]) := by decide +kernel
theorem bf63_18 : am_fetch (am_mth 63) 18 = some (.aload_n 0, 1, [], [2]) := by decide +kernel
theorem bf63_19 : am_fetch (am_mth 63) 19 = some (.getfield 15, 3, [0, 1, 0, 853], [2]) := by decide +kernel
theorem bf63_22 : am_fetch (am_mth 63) 22 = some (.aload_n 0, 1, [], [2]) := by decide +kernel
theorem bf63_23 : am_fetch (am_mth 63) 23 = some (.iload_n 1, 1, [], [2]) := by decide +kernel
theorem bf63_24 : am_fetch (am_mth 63) 24 = some (.invokevirtual 104, 3, [], [1, 2]) := by decide +kernel
theorem bf63_27 : am_fetch (am_mth 63) 27 = some (.aload_n 0, 1, [], [1, 2]) := by decide +kernel
theorem bf63_28 : am_fetch (am_mth 63) 28 = some (.getfield 22, 3, [0, 1, 1, 854], [0, 1, 2]) := by decide +kernel
theorem bf63_31 : am_fetch (am_mth 63) 31 = some (.ishl, 1, [], [0, 1, 2]) := by decide +kernel
theorem bf63_32 : am_fetch (am_mth 63) 32 = some (.invokestatic 108, 3, [], [0, 1, 2]) := by decide +kernel
theorem bf63_35 : am_fetch (am_mth 63) 35 = some (.putfield 15, 3, [0, 1, 0, 853], [0, 1, 2]) := by decide +kernel
theorem bf63_38 : am_fetch (am_mth 63) 38 = some (.return_, 1, [], [0, 1, 2]) := by decide +kernel
theorem bk63_0 {w : am_Wd} {l0 : Nat} {l1 : Int32} : am_run 63 0 [some (.ref l0), some (.int l1), none] [] w = (am_gf w l0 1 0).bind fun v => am_run 63 4 [some (.ref l0), some (.int l1), none] (v :: []) w := by
  refine (bu (ls'' := [some (.ref l0), some (.int l1), none]) (st' := [.ref l0]) bf63_0 bf63_1 rfl rfl).trans ?_
  exact bh bf63_1 bf63_4 rfl (fun _ _ => am_ge_rf w) rfl
theorem bk63_4 {w : am_Wd} {l0 : Nat} {l1 : Int32} {s0 : Nat} : am_run 63 4 [some (.ref l0), some (.int l1), none] [.ref s0] w = (am_len w s0).bind fun v => am_run 63 5 [some (.ref l0), some (.int l1), none] (.int (nI v) :: []) w := by
  exact bh bf63_4 bf63_5 rfl (fun _ _ => am_ge_rf w) rfl
theorem bk63_5 {w : am_Wd} {l0 : Nat} {l1 : Int32} {s0 : Int32} : am_run 63 5 [some (.ref l0), some (.int l1), none] [.int s0] w = (am_gf w l0 1 1).bind fun v => am_run 63 9 [some (.ref l0), some (.int l1), none] (v :: [.int s0]) w := by
  refine (bu (ls'' := [some (.ref l0), some (.int l1), none]) (st' := [.ref l0, .int s0]) bf63_5 bf63_6 rfl rfl).trans ?_
  exact bh bf63_6 bf63_9 rfl (fun _ _ => am_ge_rf w) rfl
theorem bk63_9 {w : am_Wd} {l0 : Nat} {l1 : Int32} {s0 : Int32} {s1 : Int32} : am_run 63 9 [some (.ref l0), some (.int l1), none] [.int s0, .int s1] w = if (l1 - (bj_ishr s1 s0)) ≤ nI 0 then am_run 63 38 [none, none, none] [] w else am_run 63 17 [some (.ref l0), some (.int l1), none] [] w := by
  refine (bu (ls'' := [some (.ref l0), some (.int l1), none]) (st' := [.int (bj_ishr s1 s0)]) bf63_9 bf63_10 rfl rfl).trans ?_
  refine (bu (ls'' := [some (.ref l0), some (.int l1), some (.int (bj_ishr s1 s0))]) (st' := []) bf63_10 bf63_11 rfl rfl).trans ?_
  refine (bu (ls'' := [some (.ref l0), some (.int l1), some (.int (bj_ishr s1 s0))]) (st' := [.int l1]) bf63_11 bf63_12 rfl rfl).trans ?_
  refine (bu (ls'' := [some (.ref l0), some (.int l1), none]) (st' := [.int (bj_ishr s1 s0), .int l1]) bf63_12 bf63_13 rfl rfl).trans ?_
  refine (bu (ls'' := [some (.ref l0), some (.int l1), none]) (st' := [.int (l1 - (bj_ishr s1 s0))]) bf63_13 bf63_14 rfl rfl).trans ?_
  exact bifc bf63_14 rfl bf63_38 bf63_17 rfl rfl rfl
theorem bk63_38 {w : am_Wd}  : am_run 63 38 [none, none, none] [] w = some (.inl none, w) := by
  exact am_e2 bf63_38 rfl (am_ge_rf w)
theorem bk63_17 {w : am_Wd} {l0 : Nat} {l1 : Int32} : am_run 63 17 [some (.ref l0), some (.int l1), none] [] w = (am_gf w l0 1 0).bind fun v => am_run 63 22 [some (.ref l0), some (.int l1), none] (v :: [.ref l0]) w := by
  refine (bu (ls'' := [some (.ref l0), some (.int l1), none]) (st' := [.ref l0]) bf63_17 bf63_18 rfl rfl).trans ?_
  refine (bu (ls'' := [some (.ref l0), some (.int l1), none]) (st' := [.ref l0, .ref l0]) bf63_18 bf63_19 rfl rfl).trans ?_
  exact bh bf63_19 bf63_22 rfl (fun _ _ => am_ge_rf w) rfl
-- bk63_22: list index out of range
theorem bf64_0 : am_fetch (am_mth 64) 0 = some (.aload_n 0, 1, [], []) := by decide +kernel
theorem bf64_1 : am_fetch (am_mth 64) 1 = some (.getfield 15, 3, [0, 1, 0, 853], [0]) := by decide +kernel
theorem bf64_4 : am_fetch (am_mth 64) 4 = some (.areturn, 1, [], [0]) := by decide +kernel
theorem bk64_0 {w : am_Wd} {l0 : Nat} : am_run 64 0 [some (.ref l0)] [] w = (am_gf w l0 1 0).bind fun v => am_run 64 4 [none] (v :: []) w := by
  refine (bu (ls'' := [none]) (st' := [.ref l0]) bf64_0 bf64_1 rfl rfl).trans ?_
  exact bh bf64_1 bf64_4 rfl (fun _ _ => am_ge_rf w) rfl
theorem bk64_4 {w : am_Wd} {s0 : Nat} : am_run 64 4 [none] [.ref s0] w = some (.inl (some (.ref s0)), w) := by
  exact am_e2 bf64_4 rfl (am_ge_rf w)
theorem bf65_0 : am_fetch (am_mth 65) 0 = some (.aload_n 0, 1, [], []) := by decide +kernel
theorem bf65_1 : am_fetch (am_mth 65) 1 = some (.invokespecial 3, 3, [1, 843, 85, 86], []) := by decide +kernel
theorem bf65_4 : am_fetch (am_mth 65) 4 = some (.getstatic 18, 3, [0, 1, 844], []) := by decide +kernel
theorem bf65_7 : am_fetch (am_mth 65) 7 = some (.ifCond .eq 18, 3, [], []) := by decide +kernel
theorem bf65_10 : am_fetch (am_mth 65) 10 = some (.aload_n 0, 1, [], []) := by decide +kernel
theorem bf65_11 : am_fetch (am_mth 65) 11 = some (.iload_n 1, 1, [], []) := by decide +kernel
theorem bf65_12 : am_fetch (am_mth 65) 12 = some (.newarray .byte, 2, [3, 293], [1]) := by decide +kernel
theorem bf65_14 : am_fetch (am_mth 65) 14 = some (.putfield 15, 3, [0, 1, 0, 853], [1]) := by decide +kernel
theorem bf65_17 : am_fetch (am_mth 65) 17 = some (.aload_n 0, 1, [], [1]) := by decide +kernel
theorem bf65_18 : am_fetch (am_mth 65) 18 = some (.iconst 0, 1, [], [0, 1]) := by decide +kernel
theorem bf65_19 : am_fetch (am_mth 65) 19 = some (.putfield 22, 3, [0, 1, 1, 854], [0, 1]) := by decide +kernel
theorem bf65_22 : am_fetch (am_mth 65) 22 = some (.goto 16, 3, [], [0, 1]) := by decide +kernel
theorem bf65_25 : am_fetch (am_mth 65) 25 = some (.aload_n 0, 1, [], []) := by decide +kernel
theorem bf65_26 : am_fetch (am_mth 65) 26 = some (.iload_n 1, 1, [], []) := by decide +kernel
theorem bf65_27 : am_fetch (am_mth 65) 27 = some (.invokestatic 26, 3, [], [1]) := by decide +kernel
theorem bf65_30 : am_fetch (am_mth 65) 30 = some (.putfield 15, 3, [0, 1, 0, 853], [1]) := by decide +kernel
theorem bf65_33 : am_fetch (am_mth 65) 33 = some (.aload_n 0, 1, [], [1]) := by decide +kernel
theorem bf65_34 : am_fetch (am_mth 65) 34 = some (.iconst 1, 1, [], [0, 1]) := by decide +kernel
theorem bf65_35 : am_fetch (am_mth 65) 35 = some (.putfield 22, 3, [0, 1, 1, 854], [0, 1]) := by decide +kernel
theorem bf65_38 : am_fetch (am_mth 65) 38 = some (.return_, 1, [], [0, 1]) := by decide +kernel
theorem bk65_0 {w : am_Wd} {l0 : Nat} {l1 : Int32} : am_run 65 0 [some (.ref l0), some (.int l1)] [] w = if (nI 1) = nI 0 then am_run 65 25 [some (.ref l0), some (.int l1)] [] w else am_run 65 10 [some (.ref l0), some (.int l1)] [] w := by
  refine (bu (ls'' := [some (.ref l0), some (.int l1)]) (st' := [.ref l0]) bf65_0 bf65_1 rfl rfl).trans ?_
  refine (bu (ls'' := [some (.ref l0), some (.int l1)]) (st' := []) bf65_1 bf65_4 rfl rfl).trans ?_
  refine (bu (ls'' := [some (.ref l0), some (.int l1)]) (st' := [.int (nI 1)]) bf65_4 bf65_7 rfl rfl).trans ?_
  exact bifc bf65_7 rfl bf65_25 bf65_10 rfl rfl rfl
-- bk65_25: list index out of range
theorem bk65_10 {w : am_Wd} {l0 : Nat} {l1 : Int32} : am_run 65 10 [some (.ref l0), some (.int l1)] [] w = (am_na w 3 l1).bind fun w' => am_run 65 14 [some (.ref l0), none] (.ref w.2.1 :: [.ref l0]) w' := by
  refine (bu (ls'' := [some (.ref l0), some (.int l1)]) (st' := [.ref l0]) bf65_10 bf65_11 rfl rfl).trans ?_
  refine (bu (ls'' := [some (.ref l0), none]) (st' := [.int l1, .ref l0]) bf65_11 bf65_12 rfl rfl).trans ?_
  exact bh bf65_12 bf65_14 rfl (bge_na) rfl
theorem bk65_14 {w : am_Wd} {l0 : Nat} {s0 : Nat} {s1 : Nat} : am_run 65 14 [some (.ref l0), none] [.ref s0, .ref s1] w = (am_pf w s1 1 0 (.ref s0)).bind fun w' => am_run 65 17 [some (.ref l0), none] [] w' := by
  exact bh bf65_14 bf65_17 rfl (bge_pf) rfl
theorem bk65_17 {w : am_Wd} {l0 : Nat} : am_run 65 17 [some (.ref l0), none] [] w = (am_pf w l0 1 1 (.int (nI 0))).bind fun w' => am_run 65 22 [none, none] [] w' := by
  refine (bu (ls'' := [none, none]) (st' := [.ref l0]) bf65_17 bf65_18 rfl rfl).trans ?_
  refine (bu (ls'' := [none, none]) (st' := [.int (nI 0), .ref l0]) bf65_18 bf65_19 rfl rfl).trans ?_
  exact bh bf65_19 bf65_22 rfl (bge_pf) rfl
theorem bk65_22 {w : am_Wd}  : am_run 65 22 [none, none] [] w = am_run 65 38 [none, none] [] w := by
  refine (bu (ls'' := [none, none]) (st' := []) bf65_22 bf65_38 rfl rfl).trans ?_
  rfl
theorem bk65_38 {w : am_Wd}  : am_run 65 38 [none, none] [] w = some (.inl none, w) := by
  exact am_e2 bf65_38 rfl (am_ge_rf w)
theorem bf66_0 : am_fetch (am_mth 66) 0 = some (.getstatic 18, 3, [0, 1, 844], []) := by decide +kernel
theorem bf66_3 : am_fetch (am_mth 66) 3 = some (.ifCond .eq 14, 3, [], []) := by decide +kernel
theorem bf66_6 : am_fetch (am_mth 66) 6 = some (.aload_n 0, 1, [], []) := by decide +kernel
theorem bf66_7 : am_fetch (am_mth 66) 7 = some (.getfield 22, 3, [0, 1, 1, 854], [0]) := by decide +kernel
theorem bf66_10 : am_fetch (am_mth 66) 10 = some (.ifCond .ne 7, 3, [], [0]) := by decide +kernel
theorem bf66_13 : am_fetch (am_mth 66) 13 = some (.iconst 1, 1, [], [0]) := by decide +kernel
theorem bf66_14 : am_fetch (am_mth 66) 14 = some (.goto 4, 3, [], [0]) := by decide +kernel
theorem bf66_17 : am_fetch (am_mth 66) 17 = some (.iconst 0, 1, [], [0]) := by decide +kernel
theorem bf66_18 : am_fetch (am_mth 66) 18 = some (.ireturn, 1, [1], [0]) := by decide +kernel
theorem bk66_0 {w : am_Wd} {l0 : Nat} : am_run 66 0 [some (.ref l0)] [] w = if (nI 1) = nI 0 then am_run 66 17 [none] [] w else am_run 66 6 [some (.ref l0)] [] w := by
  refine (bu (ls'' := [some (.ref l0)]) (st' := [.int (nI 1)]) bf66_0 bf66_3 rfl rfl).trans ?_
  exact bifc bf66_3 rfl bf66_17 bf66_6 rfl rfl rfl
theorem bk66_17 {w : am_Wd}  : am_run 66 17 [none] [] w = am_run 66 18 [none] [.int (nI 0)] w := by
  refine (bu (ls'' := [none]) (st' := [.int (nI 0)]) bf66_17 bf66_18 rfl rfl).trans ?_
  rfl
theorem bk66_6 {w : am_Wd} {l0 : Nat} : am_run 66 6 [some (.ref l0)] [] w = (am_gf w l0 1 1).bind fun v => am_run 66 10 [none] (v :: []) w := by
  refine (bu (ls'' := [none]) (st' := [.ref l0]) bf66_6 bf66_7 rfl rfl).trans ?_
  exact bh bf66_7 bf66_10 rfl (fun _ _ => am_ge_rf w) rfl
theorem bk66_18 {w : am_Wd} {s0 : Int32} (hb : am_ok (am_rt 1) (.int s0) = true) : am_run 66 18 [none] [.int s0] w = some (.inl (some (.int s0)), w) := by
  exact am_e2 bf66_18 (by unfold am_stp; exact if_pos ⟨by decide, hb⟩) (am_ge_rf w)
theorem bk66_10 {w : am_Wd} {s0 : Int32} : am_run 66 10 [none] [.int s0] w = if ¬ s0 = nI 0 then am_run 66 17 [none] [] w else am_run 66 13 [none] [] w := by
  exact bifc bf66_10 rfl bf66_17 bf66_13 rfl rfl rfl
theorem bk66_13 {w : am_Wd}  : am_run 66 13 [none] [] w = am_run 66 18 [none] [.int (nI 1)] w := by
  refine (bu (ls'' := [none]) (st' := [.int (nI 1)]) bf66_13 bf66_14 rfl rfl).trans ?_
  refine (bu (ls'' := [none]) (st' := [.int (nI 1)]) bf66_14 bf66_18 rfl rfl).trans ?_
  rfl
theorem bf67_0 : am_fetch (am_mth 67) 0 = some (.aload_n 0, 1, [], []) := by decide +kernel
theorem bf67_1 : am_fetch (am_mth 67) 1 = some (.getfield 79, 3, [0, 1, 3, 856], [0]) := by decide +kernel
theorem bf67_4 : am_fetch (am_mth 67) 4 = some (.ireturn, 1, [0], [0]) := by decide +kernel
theorem bk67_0 {w : am_Wd} {l0 : Nat} : am_run 67 0 [some (.ref l0)] [] w = (am_gf w l0 1 3).bind fun v => am_run 67 4 [none] (v :: []) w := by
  refine (bu (ls'' := [none]) (st' := [.ref l0]) bf67_0 bf67_1 rfl rfl).trans ?_
  exact bh bf67_1 bf67_4 rfl (fun _ _ => am_ge_rf w) rfl
theorem bk67_4 {w : am_Wd} {s0 : Int32} : am_run 67 4 [none] [.int s0] w = some (.inl (some (.int s0)), w) := by
  exact am_e2 bf67_4 rfl (am_ge_rf w)
theorem bf68_0 : am_fetch (am_mth 68) 0 = some (.iload_n 1, 1, [], [3, 4, 5, 6]) := by decide +kernel
theorem bf68_1 : am_fetch (am_mth 68) 1 = some (.istore 5, 2, [], [1, 3, 4, 5, 6]) := by decide +kernel
theorem bf68_3 : am_fetch (am_mth 68) 3 = some (.iload_n 0, 1, [], [1, 3, 4, 6]) := by decide +kernel
theorem bf68_4 : am_fetch (am_mth 68) 4 = some (.ifCond .ge 7, 3, [], [1, 3, 4, 6]) := by decide +kernel
theorem bf68_7 : am_fetch (am_mth 68) 7 = some (.iconst 1, 1, [], [1, 3, 4, 6]) := by decide +kernel
theorem bf68_8 : am_fetch (am_mth 68) 8 = some (.goto 4, 3, [], [1, 3, 4, 6]) := by decide +kernel
theorem bf68_11 : am_fetch (am_mth 68) 11 = some (.iconst 0, 1, [], [1, 3, 4, 6]) := by decide +kernel
theorem bf68_12 : am_fetch (am_mth 68) 12 = some (.istore 6, 2, [], [1, 3, 4, 6]) := by decide +kernel
theorem bf68_14 : am_fetch (am_mth 68) 14 = some (.iload 6, 2, [], [1, 3, 4]) := by decide +kernel
theorem bf68_16 : am_fetch (am_mth 68) 16 = some (.ifCond .ne 6, 3, [], [1, 3, 4]) := by decide +kernel
theorem bf68_19 : am_fetch (am_mth 68) 19 = some (.iload_n 0, 1, [], [1, 3, 4]) := by decide +kernel
theorem bf68_20 : am_fetch (am_mth 68) 20 = some (.ineg, 1, [], [0, 1, 3, 4]) := by decide +kernel
theorem bf68_21 : am_fetch (am_mth 68) 21 = some (.istore_n 0, 1, [], [0, 1, 3, 4]) := by decide +kernel
theorem bf68_22 : am_fetch (am_mth 68) 22 = some (.iload_n 0, 1, [], [1, 3, 4]) := by decide +kernel
theorem bf68_23 : am_fetch (am_mth 68) 23 = some (.bipush (-100), 2, [], [1, 3, 4]) := by decide +kernel
theorem bf68_25 : am_fetch (am_mth 68) 25 = some (.if_icmp .gt 47, 3, [], [1, 3, 4]) := by decide +kernel
theorem bf68_28 : am_fetch (am_mth 68) 28 = some (.iload_n 0, 1, [], [1, 3, 4]) := by decide +kernel
theorem bf68_29 : am_fetch (am_mth 68) 29 = some (.bipush 100, 2, [], [1, 3, 4]) := by decide +kernel
theorem bf68_31 : am_fetch (am_mth 68) 31 = some (.idiv, 1, [], [1, 3, 4]) := by decide +kernel
theorem bf68_32 : am_fetch (am_mth 68) 32 = some (.istore_n 3, 1, [], [1, 3, 4]) := by decide +kernel
theorem bf68_33 : am_fetch (am_mth 68) 33 = some (.iload_n 3, 1, [], [1, 4]) := by decide +kernel
theorem bf68_34 : am_fetch (am_mth 68) 34 = some (.bipush 100, 2, [], [1, 4]) := by decide +kernel
theorem bf68_36 : am_fetch (am_mth 68) 36 = some (.imul, 1, [], [1, 4]) := by decide +kernel
theorem bf68_37 : am_fetch (am_mth 68) 37 = some (.iload_n 0, 1, [], [1, 4]) := by decide +kernel
theorem bf68_38 : am_fetch (am_mth 68) 38 = some (.isub, 1, [], [0, 1, 4]) := by decide +kernel
theorem bf68_39 : am_fetch (am_mth 68) 39 = some (.istore 4, 2, [], [0, 1, 4]) := by decide +kernel
theorem bf68_41 : am_fetch (am_mth 68) 41 = some (.iload_n 3, 1, [], [0, 1]) := by decide +kernel
theorem bf68_42 : am_fetch (am_mth 68) 42 = some (.istore_n 0, 1, [], [0, 1, 3]) := by decide +kernel
theorem bf68_43 : am_fetch (am_mth 68) 43 = some (.aload_n 2, 1, [], [1, 3]) := by decide +kernel
theorem bf68_44 : am_fetch (am_mth 68) 44 = some (.iinc 5 (-1), 3, [], [1, 3]) := by decide +kernel
theorem bf68_47 : am_fetch (am_mth 68) 47 = some (.iload 5, 2, [], [1, 3]) := by decide +kernel
theorem bf68_49 : am_fetch (am_mth 68) 49 = some (.getstatic 83, 3, [1, 2, 1014], [1, 3]) := by decide +kernel
theorem bf68_52 : am_fetch (am_mth 68) 52 = some (.iload 4, 2, [], [1, 3]) := by decide +kernel
theorem bf68_54 : am_fetch (am_mth 68) 54 = some (.baload, 1, [3], [1, 3]) := by decide +kernel
theorem bf68_55 : am_fetch (am_mth 68) 55 = some (.bastore, 1, [3], [1, 3]) := by decide +kernel
theorem bf68_56 : am_fetch (am_mth 68) 56 = some (.aload_n 2, 1, [], [1, 3]) := by decide +kernel
theorem bf68_57 : am_fetch (am_mth 68) 57 = some (.iinc 5 (-1), 3, [], [1, 3]) := by decide +kernel
theorem bf68_60 : am_fetch (am_mth 68) 60 = some (.iload 5, 2, [], [1, 3]) := by decide +kernel
theorem bf68_62 : am_fetch (am_mth 68) 62 = some (.getstatic 87, 3, [1, 3, 1016], [1, 3]) := by decide +kernel
theorem bf68_65 : am_fetch (am_mth 68) 65 = some (.iload 4, 2, [], [1, 3]) := by decide +kernel
theorem bf68_67 : am_fetch (am_mth 68) 67 = some (.baload, 1, [3], [1, 3, 4]) := by decide +kernel
theorem bf68_68 : am_fetch (am_mth 68) 68 = some (.bastore, 1, [3], [1, 3, 4]) := by decide +kernel
theorem bf68_69 : am_fetch (am_mth 68) 69 = some (.goto (-47), 3, [], [1, 3, 4]) := by decide +kernel
theorem bf68_72 : am_fetch (am_mth 68) 72 = some (.aload_n 2, 1, [], [1, 3, 4]) := by decide +kernel
theorem bf68_73 : am_fetch (am_mth 68) 73 = some (.iinc 5 (-1), 3, [], [1, 3, 4]) := by decide +kernel
theorem bf68_76 : am_fetch (am_mth 68) 76 = some (.iload 5, 2, [], [1, 3, 4]) := by decide +kernel
theorem bf68_78 : am_fetch (am_mth 68) 78 = some (.getstatic 83, 3, [1, 2, 1014], [1, 3, 4]) := by decide +kernel
theorem bf68_81 : am_fetch (am_mth 68) 81 = some (.iload_n 0, 1, [], [1, 3, 4]) := by decide +kernel
theorem bf68_82 : am_fetch (am_mth 68) 82 = some (.ineg, 1, [], [1, 3, 4]) := by decide +kernel
theorem bf68_83 : am_fetch (am_mth 68) 83 = some (.baload, 1, [3], [1, 3, 4]) := by decide +kernel
theorem bf68_84 : am_fetch (am_mth 68) 84 = some (.bastore, 1, [3], [1, 3, 4]) := by decide +kernel
theorem bf68_85 : am_fetch (am_mth 68) 85 = some (.iload_n 0, 1, [], [1, 3, 4]) := by decide +kernel
theorem bf68_86 : am_fetch (am_mth 68) 86 = some (.bipush (-9), 2, [], [1, 3, 4]) := by decide +kernel
theorem bf68_88 : am_fetch (am_mth 68) 88 = some (.if_icmp .ge 16, 3, [], [1, 3, 4]) := by decide +kernel
theorem bf68_91 : am_fetch (am_mth 68) 91 = some (.aload_n 2, 1, [], [1, 3, 4]) := by decide +kernel
theorem bf68_92 : am_fetch (am_mth 68) 92 = some (.iinc 5 (-1), 3, [], [1, 3, 4]) := by decide +kernel
theorem bf68_95 : am_fetch (am_mth 68) 95 = some (.iload 5, 2, [], [1, 3, 4]) := by decide +kernel
theorem bf68_97 : am_fetch (am_mth 68) 97 = some (.getstatic 87, 3, [1, 3, 1016], [1, 3, 4]) := by decide +kernel
theorem bf68_100 : am_fetch (am_mth 68) 100 = some (.iload_n 0, 1, [], [1, 3, 4]) := by decide +kernel
theorem bf68_101 : am_fetch (am_mth 68) 101 = some (.ineg, 1, [], [0, 1, 3, 4]) := by decide +kernel
theorem bf68_102 : am_fetch (am_mth 68) 102 = some (.baload, 1, [3], [0, 1, 3, 4]) := by decide +kernel
theorem bf68_103 : am_fetch (am_mth 68) 103 = some (.bastore, 1, [3], [0, 1, 3, 4]) := by decide +kernel
theorem bf68_104 : am_fetch (am_mth 68) 104 = some (.iload 6, 2, [], [0, 1, 3, 4]) := by decide +kernel
theorem bf68_106 : am_fetch (am_mth 68) 106 = some (.ifCond .eq 12, 3, [], [0, 1, 3, 4, 6]) := by decide +kernel
theorem bf68_109 : am_fetch (am_mth 68) 109 = some (.aload_n 2, 1, [], [0, 1, 3, 4, 6]) := by decide +kernel
theorem bf68_110 : am_fetch (am_mth 68) 110 = some (.iinc 5 (-1), 3, [], [0, 1, 2, 3, 4, 6]) := by decide +kernel
theorem bf68_113 : am_fetch (am_mth 68) 113 = some (.iload 5, 2, [], [0, 1, 2, 3, 4, 6]) := by decide +kernel
theorem bf68_115 : am_fetch (am_mth 68) 115 = some (.bipush 45, 2, [], [0, 1, 2, 3, 4, 6]) := by decide +kernel
theorem bf68_117 : am_fetch (am_mth 68) 117 = some (.bastore, 1, [3], [0, 1, 2, 3, 4, 6]) := by decide +kernel
theorem bf68_118 : am_fetch (am_mth 68) 118 = some (.iload 5, 2, [], [0, 1, 2, 3, 4, 6]) := by decide +kernel
theorem bf68_120 : am_fetch (am_mth 68) 120 = some (.ireturn, 1, [0], [0, 1, 2, 3, 4, 5, 6]) := by decide +kernel
theorem bk68_0 {w : am_Wd} {l0 : Int32} {l1 : Int32} {l2 : Nat} : am_run 68 0 [some (.int l0), some (.int l1), some (.ref l2), none, none, none, none] [] w = if nI 0 ≤ l0 then am_run 68 11 [some (.int l0), none, some (.ref l2), none, none, some (.int l1), none] [] w else am_run 68 7 [some (.int l0), none, some (.ref l2), none, none, some (.int l1), none] [] w := by
  refine (bu (ls'' := [some (.int l0), none, some (.ref l2), none, none, none, none]) (st' := [.int l1]) bf68_0 bf68_1 rfl rfl).trans ?_
  refine (bu (ls'' := [some (.int l0), none, some (.ref l2), none, none, some (.int l1), none]) (st' := []) bf68_1 bf68_3 rfl rfl).trans ?_
  refine (bu (ls'' := [some (.int l0), none, some (.ref l2), none, none, some (.int l1), none]) (st' := [.int l0]) bf68_3 bf68_4 rfl rfl).trans ?_
  exact bifc bf68_4 rfl bf68_11 bf68_7 rfl rfl rfl
theorem bk68_11 {w : am_Wd} {l0 : Int32} {l2 : Nat} {l5 : Int32} : am_run 68 11 [some (.int l0), none, some (.ref l2), none, none, some (.int l5), none] [] w = am_run 68 12 [some (.int l0), none, some (.ref l2), none, none, some (.int l5), none] [.int (nI 0)] w := by
  refine (bu (ls'' := [some (.int l0), none, some (.ref l2), none, none, some (.int l5), none]) (st' := [.int (nI 0)]) bf68_11 bf68_12 rfl rfl).trans ?_
  rfl
theorem bk68_7 {w : am_Wd} {l0 : Int32} {l2 : Nat} {l5 : Int32} : am_run 68 7 [some (.int l0), none, some (.ref l2), none, none, some (.int l5), none] [] w = am_run 68 12 [some (.int l0), none, some (.ref l2), none, none, some (.int l5), none] [.int (nI 1)] w := by
  refine (bu (ls'' := [some (.int l0), none, some (.ref l2), none, none, some (.int l5), none]) (st' := [.int (nI 1)]) bf68_7 bf68_8 rfl rfl).trans ?_
  refine (bu (ls'' := [some (.int l0), none, some (.ref l2), none, none, some (.int l5), none]) (st' := [.int (nI 1)]) bf68_8 bf68_12 rfl rfl).trans ?_
  rfl
theorem bk68_12 {w : am_Wd} {l0 : Int32} {l2 : Nat} {l5 : Int32} {s0 : Int32} : am_run 68 12 [some (.int l0), none, some (.ref l2), none, none, some (.int l5), none] [.int s0] w = if ¬ s0 = nI 0 then am_run 68 22 [some (.int l0), none, some (.ref l2), none, none, some (.int l5), some (.int s0)] [] w else am_run 68 19 [some (.int l0), none, some (.ref l2), none, none, some (.int l5), some (.int s0)] [] w := by
  refine (bu (ls'' := [some (.int l0), none, some (.ref l2), none, none, some (.int l5), some (.int s0)]) (st' := []) bf68_12 bf68_14 rfl rfl).trans ?_
  refine (bu (ls'' := [some (.int l0), none, some (.ref l2), none, none, some (.int l5), some (.int s0)]) (st' := [.int s0]) bf68_14 bf68_16 rfl rfl).trans ?_
  exact bifc bf68_16 rfl bf68_22 bf68_19 rfl rfl rfl
theorem bk68_22 {w : am_Wd} {l0 : Int32} {l2 : Nat} {l5 : Int32} {l6 : Int32} : am_run 68 22 [some (.int l0), none, some (.ref l2), none, none, some (.int l5), some (.int l6)] [] w = if (-100 : Int32) < l0 then am_run 68 72 [some (.int l0), none, some (.ref l2), none, none, some (.int l5), some (.int l6)] [] w else am_run 68 28 [some (.int l0), none, some (.ref l2), none, none, some (.int l5), some (.int l6)] [] w := by
  refine (bu (ls'' := [some (.int l0), none, some (.ref l2), none, none, some (.int l5), some (.int l6)]) (st' := [.int l0]) bf68_22 bf68_23 rfl rfl).trans ?_
  refine (bu (ls'' := [some (.int l0), none, some (.ref l2), none, none, some (.int l5), some (.int l6)]) (st' := [.int (-100 : Int32), .int l0]) bf68_23 bf68_25 rfl rfl).trans ?_
  exact bic bf68_25 rfl bf68_72 bf68_28 rfl rfl rfl
theorem bk68_19 {w : am_Wd} {l0 : Int32} {l2 : Nat} {l5 : Int32} {l6 : Int32} : am_run 68 19 [some (.int l0), none, some (.ref l2), none, none, some (.int l5), some (.int l6)] [] w = am_run 68 22 [some (.int (-l0)), none, some (.ref l2), none, none, some (.int l5), some (.int l6)] [] w := by
  refine (bu (ls'' := [none, none, some (.ref l2), none, none, some (.int l5), some (.int l6)]) (st' := [.int l0]) bf68_19 bf68_20 rfl rfl).trans ?_
  refine (bu (ls'' := [none, none, some (.ref l2), none, none, some (.int l5), some (.int l6)]) (st' := [.int (-l0)]) bf68_20 bf68_21 rfl rfl).trans ?_
  refine (bu (ls'' := [some (.int (-l0)), none, some (.ref l2), none, none, some (.int l5), some (.int l6)]) (st' := []) bf68_21 bf68_22 rfl rfl).trans ?_
  rfl
theorem bk68_72 {w : am_Wd} {l0 : Int32} {l2 : Nat} {l5 : Int32} {l6 : Int32} {sg : Nat} (hg : w.2.2.2 2 = some sg) : am_run 68 72 [some (.int l0), none, some (.ref l2), none, none, some (.int l5), some (.int l6)] [] w = am_run 68 81 [some (.int l0), none, some (.ref l2), none, none, some (.int (l5 + (-1 : Int32))), some (.int l6)] (.ref sg :: [.int (l5 + (-1 : Int32)), .ref l2]) w := by
  refine (bu (ls'' := [some (.int l0), none, some (.ref l2), none, none, some (.int l5), some (.int l6)]) (st' := [.ref l2]) bf68_72 bf68_73 rfl rfl).trans ?_
  refine (bu (ls'' := [some (.int l0), none, some (.ref l2), none, none, some (.int (l5 + (-1 : Int32))), some (.int l6)]) (st' := [.ref l2]) bf68_73 bf68_76 rfl rfl).trans ?_
  refine (bu (ls'' := [some (.int l0), none, some (.ref l2), none, none, some (.int (l5 + (-1 : Int32))), some (.int l6)]) (st' := [.int (l5 + (-1 : Int32)), .ref l2]) bf68_76 bf68_78 rfl rfl).trans ?_
  exact bu (ls'' := [some (.int l0), none, some (.ref l2), none, none, some (.int (l5 + (-1 : Int32))), some (.int l6)]) (st' := .ref sg :: [.int (l5 + (-1 : Int32)), .ref l2]) bf68_78 bf68_81 (by show some _ = _; rw [hg]; rfl) rfl
theorem bk68_28 {w : am_Wd} {l0 : Int32} {l2 : Nat} {l5 : Int32} {l6 : Int32} {sg : Nat} (hg : w.2.2.2 2 = some sg) : am_run 68 28 [some (.int l0), none, some (.ref l2), none, none, some (.int l5), some (.int l6)] [] w = am_run 68 52 [some (.int (l0 / (nI 100))), none, some (.ref l2), none, some (.int (((l0 / (nI 100)) * (nI 100)) - l0)), some (.int (l5 + (-1 : Int32))), some (.int l6)] (.ref sg :: [.int (l5 + (-1 : Int32)), .ref l2]) w := by
  refine (bu (ls'' := [some (.int l0), none, some (.ref l2), none, none, some (.int l5), some (.int l6)]) (st' := [.int l0]) bf68_28 bf68_29 rfl rfl).trans ?_
  refine (bu (ls'' := [some (.int l0), none, some (.ref l2), none, none, some (.int l5), some (.int l6)]) (st' := [.int (nI 100), .int l0]) bf68_29 bf68_31 rfl rfl).trans ?_
  refine (bu (ls'' := [some (.int l0), none, some (.ref l2), none, none, some (.int l5), some (.int l6)]) (st' := [.int (l0 / (nI 100))]) bf68_31 bf68_32 rfl rfl).trans ?_
  refine (bu (ls'' := [some (.int l0), none, some (.ref l2), some (.int (l0 / (nI 100))), none, some (.int l5), some (.int l6)]) (st' := []) bf68_32 bf68_33 rfl rfl).trans ?_
  refine (bu (ls'' := [some (.int l0), none, some (.ref l2), some (.int (l0 / (nI 100))), none, some (.int l5), some (.int l6)]) (st' := [.int (l0 / (nI 100))]) bf68_33 bf68_34 rfl rfl).trans ?_
  refine (bu (ls'' := [some (.int l0), none, some (.ref l2), some (.int (l0 / (nI 100))), none, some (.int l5), some (.int l6)]) (st' := [.int (nI 100), .int (l0 / (nI 100))]) bf68_34 bf68_36 rfl rfl).trans ?_
  refine (bu (ls'' := [some (.int l0), none, some (.ref l2), some (.int (l0 / (nI 100))), none, some (.int l5), some (.int l6)]) (st' := [.int ((l0 / (nI 100)) * (nI 100))]) bf68_36 bf68_37 rfl rfl).trans ?_
  refine (bu (ls'' := [none, none, some (.ref l2), some (.int (l0 / (nI 100))), none, some (.int l5), some (.int l6)]) (st' := [.int l0, .int ((l0 / (nI 100)) * (nI 100))]) bf68_37 bf68_38 rfl rfl).trans ?_
  refine (bu (ls'' := [none, none, some (.ref l2), some (.int (l0 / (nI 100))), none, some (.int l5), some (.int l6)]) (st' := [.int (((l0 / (nI 100)) * (nI 100)) - l0)]) bf68_38 bf68_39 rfl rfl).trans ?_
  refine (bu (ls'' := [none, none, some (.ref l2), some (.int (l0 / (nI 100))), some (.int (((l0 / (nI 100)) * (nI 100)) - l0)), some (.int l5), some (.int l6)]) (st' := []) bf68_39 bf68_41 rfl rfl).trans ?_
  refine (bu (ls'' := [none, none, some (.ref l2), none, some (.int (((l0 / (nI 100)) * (nI 100)) - l0)), some (.int l5), some (.int l6)]) (st' := [.int (l0 / (nI 100))]) bf68_41 bf68_42 rfl rfl).trans ?_
  refine (bu (ls'' := [some (.int (l0 / (nI 100))), none, some (.ref l2), none, some (.int (((l0 / (nI 100)) * (nI 100)) - l0)), some (.int l5), some (.int l6)]) (st' := []) bf68_42 bf68_43 rfl rfl).trans ?_
  refine (bu (ls'' := [some (.int (l0 / (nI 100))), none, some (.ref l2), none, some (.int (((l0 / (nI 100)) * (nI 100)) - l0)), some (.int l5), some (.int l6)]) (st' := [.ref l2]) bf68_43 bf68_44 rfl rfl).trans ?_
  refine (bu (ls'' := [some (.int (l0 / (nI 100))), none, some (.ref l2), none, some (.int (((l0 / (nI 100)) * (nI 100)) - l0)), some (.int (l5 + (-1 : Int32))), some (.int l6)]) (st' := [.ref l2]) bf68_44 bf68_47 rfl rfl).trans ?_
  refine (bu (ls'' := [some (.int (l0 / (nI 100))), none, some (.ref l2), none, some (.int (((l0 / (nI 100)) * (nI 100)) - l0)), some (.int (l5 + (-1 : Int32))), some (.int l6)]) (st' := [.int (l5 + (-1 : Int32)), .ref l2]) bf68_47 bf68_49 rfl rfl).trans ?_
  exact bu (ls'' := [some (.int (l0 / (nI 100))), none, some (.ref l2), none, some (.int (((l0 / (nI 100)) * (nI 100)) - l0)), some (.int (l5 + (-1 : Int32))), some (.int l6)]) (st' := .ref sg :: [.int (l5 + (-1 : Int32)), .ref l2]) bf68_49 bf68_52 (by show some _ = _; rw [hg]; rfl) rfl
theorem bk68_81 {w : am_Wd} {l0 : Int32} {l2 : Nat} {l5 : Int32} {l6 : Int32} {s0 : Nat} {s1 : Int32} {s2 : Nat} : am_run 68 81 [some (.int l0), none, some (.ref l2), none, none, some (.int l5), some (.int l6)] [.ref s0, .int s1, .ref s2] w = (am_ri 3 w s0 (-l0)).bind fun v => am_run 68 84 [some (.int l0), none, some (.ref l2), none, none, some (.int l5), some (.int l6)] (.int v :: [.int s1, .ref s2]) w := by
  refine (bu (ls'' := [some (.int l0), none, some (.ref l2), none, none, some (.int l5), some (.int l6)]) (st' := [.int l0, .ref s0, .int s1, .ref s2]) bf68_81 bf68_82 rfl rfl).trans ?_
  refine (bu (ls'' := [some (.int l0), none, some (.ref l2), none, none, some (.int l5), some (.int l6)]) (st' := [.int (-l0), .ref s0, .int s1, .ref s2]) bf68_82 bf68_83 rfl rfl).trans ?_
  exact bh bf68_83 bf68_84 rfl (fun _ _ => am_ge_rf w) rfl
theorem bk68_52 {w : am_Wd} {l0 : Int32} {l2 : Nat} {l4 : Int32} {l5 : Int32} {l6 : Int32} {s0 : Nat} {s1 : Int32} {s2 : Nat} : am_run 68 52 [some (.int l0), none, some (.ref l2), none, some (.int l4), some (.int l5), some (.int l6)] [.ref s0, .int s1, .ref s2] w = (am_ri 3 w s0 l4).bind fun v => am_run 68 55 [some (.int l0), none, some (.ref l2), none, some (.int l4), some (.int l5), some (.int l6)] (.int v :: [.int s1, .ref s2]) w := by
  refine (bu (ls'' := [some (.int l0), none, some (.ref l2), none, some (.int l4), some (.int l5), some (.int l6)]) (st' := [.int l4, .ref s0, .int s1, .ref s2]) bf68_52 bf68_54 rfl rfl).trans ?_
  exact bh bf68_54 bf68_55 rfl (fun _ _ => am_ge_rf w) rfl
theorem bk68_84 {w : am_Wd} {l0 : Int32} {l2 : Nat} {l5 : Int32} {l6 : Int32} {s0 : Int32} {s1 : Int32} {s2 : Nat} : am_run 68 84 [some (.int l0), none, some (.ref l2), none, none, some (.int l5), some (.int l6)] [.int s0, .int s1, .ref s2] w = (am_wi 3 w s2 s1 (vp_nar .byte s0)).bind fun w' => am_run 68 85 [some (.int l0), none, some (.ref l2), none, none, some (.int l5), some (.int l6)] [] w' := by
  exact bh bf68_84 bf68_85 rfl (bge_wi) rfl
theorem bk68_55 {w : am_Wd} {l0 : Int32} {l2 : Nat} {l4 : Int32} {l5 : Int32} {l6 : Int32} {s0 : Int32} {s1 : Int32} {s2 : Nat} : am_run 68 55 [some (.int l0), none, some (.ref l2), none, some (.int l4), some (.int l5), some (.int l6)] [.int s0, .int s1, .ref s2] w = (am_wi 3 w s2 s1 (vp_nar .byte s0)).bind fun w' => am_run 68 56 [some (.int l0), none, some (.ref l2), none, some (.int l4), some (.int l5), some (.int l6)] [] w' := by
  exact bh bf68_55 bf68_56 rfl (bge_wi) rfl
theorem bk68_85 {w : am_Wd} {l0 : Int32} {l2 : Nat} {l5 : Int32} {l6 : Int32} : am_run 68 85 [some (.int l0), none, some (.ref l2), none, none, some (.int l5), some (.int l6)] [] w = if (-9 : Int32) ≤ l0 then am_run 68 104 [none, none, some (.ref l2), none, none, some (.int l5), some (.int l6)] [] w else am_run 68 91 [some (.int l0), none, some (.ref l2), none, none, some (.int l5), some (.int l6)] [] w := by
  refine (bu (ls'' := [some (.int l0), none, some (.ref l2), none, none, some (.int l5), some (.int l6)]) (st' := [.int l0]) bf68_85 bf68_86 rfl rfl).trans ?_
  refine (bu (ls'' := [some (.int l0), none, some (.ref l2), none, none, some (.int l5), some (.int l6)]) (st' := [.int (-9 : Int32), .int l0]) bf68_86 bf68_88 rfl rfl).trans ?_
  exact bic bf68_88 rfl bf68_104 bf68_91 rfl rfl rfl
theorem bk68_56 {w : am_Wd} {l0 : Int32} {l2 : Nat} {l4 : Int32} {l5 : Int32} {l6 : Int32} {sg : Nat} (hg : w.2.2.2 3 = some sg) : am_run 68 56 [some (.int l0), none, some (.ref l2), none, some (.int l4), some (.int l5), some (.int l6)] [] w = am_run 68 65 [some (.int l0), none, some (.ref l2), none, some (.int l4), some (.int (l5 + (-1 : Int32))), some (.int l6)] (.ref sg :: [.int (l5 + (-1 : Int32)), .ref l2]) w := by
  refine (bu (ls'' := [some (.int l0), none, some (.ref l2), none, some (.int l4), some (.int l5), some (.int l6)]) (st' := [.ref l2]) bf68_56 bf68_57 rfl rfl).trans ?_
  refine (bu (ls'' := [some (.int l0), none, some (.ref l2), none, some (.int l4), some (.int (l5 + (-1 : Int32))), some (.int l6)]) (st' := [.ref l2]) bf68_57 bf68_60 rfl rfl).trans ?_
  refine (bu (ls'' := [some (.int l0), none, some (.ref l2), none, some (.int l4), some (.int (l5 + (-1 : Int32))), some (.int l6)]) (st' := [.int (l5 + (-1 : Int32)), .ref l2]) bf68_60 bf68_62 rfl rfl).trans ?_
  exact bu (ls'' := [some (.int l0), none, some (.ref l2), none, some (.int l4), some (.int (l5 + (-1 : Int32))), some (.int l6)]) (st' := .ref sg :: [.int (l5 + (-1 : Int32)), .ref l2]) bf68_62 bf68_65 (by show some _ = _; rw [hg]; rfl) rfl
theorem bk68_104 {w : am_Wd} {l2 : Nat} {l5 : Int32} {l6 : Int32} : am_run 68 104 [none, none, some (.ref l2), none, none, some (.int l5), some (.int l6)] [] w = if l6 = nI 0 then am_run 68 118 [none, none, none, none, none, some (.int l5), none] [] w else am_run 68 109 [none, none, some (.ref l2), none, none, some (.int l5), none] [] w := by
  refine (bu (ls'' := [none, none, some (.ref l2), none, none, some (.int l5), none]) (st' := [.int l6]) bf68_104 bf68_106 rfl rfl).trans ?_
  exact bifc bf68_106 rfl bf68_118 bf68_109 rfl rfl rfl
theorem bk68_91 {w : am_Wd} {l0 : Int32} {l2 : Nat} {l5 : Int32} {l6 : Int32} {sg : Nat} (hg : w.2.2.2 3 = some sg) : am_run 68 91 [some (.int l0), none, some (.ref l2), none, none, some (.int l5), some (.int l6)] [] w = am_run 68 100 [some (.int l0), none, some (.ref l2), none, none, some (.int (l5 + (-1 : Int32))), some (.int l6)] (.ref sg :: [.int (l5 + (-1 : Int32)), .ref l2]) w := by
  refine (bu (ls'' := [some (.int l0), none, some (.ref l2), none, none, some (.int l5), some (.int l6)]) (st' := [.ref l2]) bf68_91 bf68_92 rfl rfl).trans ?_
  refine (bu (ls'' := [some (.int l0), none, some (.ref l2), none, none, some (.int (l5 + (-1 : Int32))), some (.int l6)]) (st' := [.ref l2]) bf68_92 bf68_95 rfl rfl).trans ?_
  refine (bu (ls'' := [some (.int l0), none, some (.ref l2), none, none, some (.int (l5 + (-1 : Int32))), some (.int l6)]) (st' := [.int (l5 + (-1 : Int32)), .ref l2]) bf68_95 bf68_97 rfl rfl).trans ?_
  exact bu (ls'' := [some (.int l0), none, some (.ref l2), none, none, some (.int (l5 + (-1 : Int32))), some (.int l6)]) (st' := .ref sg :: [.int (l5 + (-1 : Int32)), .ref l2]) bf68_97 bf68_100 (by show some _ = _; rw [hg]; rfl) rfl
theorem bk68_65 {w : am_Wd} {l0 : Int32} {l2 : Nat} {l4 : Int32} {l5 : Int32} {l6 : Int32} {s0 : Nat} {s1 : Int32} {s2 : Nat} : am_run 68 65 [some (.int l0), none, some (.ref l2), none, some (.int l4), some (.int l5), some (.int l6)] [.ref s0, .int s1, .ref s2] w = (am_ri 3 w s0 l4).bind fun v => am_run 68 68 [some (.int l0), none, some (.ref l2), none, none, some (.int l5), some (.int l6)] (.int v :: [.int s1, .ref s2]) w := by
  refine (bu (ls'' := [some (.int l0), none, some (.ref l2), none, none, some (.int l5), some (.int l6)]) (st' := [.int l4, .ref s0, .int s1, .ref s2]) bf68_65 bf68_67 rfl rfl).trans ?_
  exact bh bf68_67 bf68_68 rfl (fun _ _ => am_ge_rf w) rfl
theorem bk68_118 {w : am_Wd} {l5 : Int32} : am_run 68 118 [none, none, none, none, none, some (.int l5), none] [] w = some (.inl (some (.int l5)), w) := by
  refine (bu (ls'' := [none, none, none, none, none, none, none]) (st' := [.int l5]) bf68_118 bf68_120 rfl rfl).trans ?_
  exact am_e2 bf68_120 rfl (am_ge_rf w)
theorem bk68_109 {w : am_Wd} {l2 : Nat} {l5 : Int32} : am_run 68 109 [none, none, some (.ref l2), none, none, some (.int l5), none] [] w = (am_wi 3 w l2 (l5 + (-1 : Int32)) (vp_nar .byte (nI 45))).bind fun w' => am_run 68 118 [none, none, none, none, none, some (.int (l5 + (-1 : Int32))), none] [] w' := by
  refine (bu (ls'' := [none, none, none, none, none, some (.int l5), none]) (st' := [.ref l2]) bf68_109 bf68_110 rfl rfl).trans ?_
  refine (bu (ls'' := [none, none, none, none, none, some (.int (l5 + (-1 : Int32))), none]) (st' := [.ref l2]) bf68_110 bf68_113 rfl rfl).trans ?_
  refine (bu (ls'' := [none, none, none, none, none, some (.int (l5 + (-1 : Int32))), none]) (st' := [.int (l5 + (-1 : Int32)), .ref l2]) bf68_113 bf68_115 rfl rfl).trans ?_
  refine (bu (ls'' := [none, none, none, none, none, some (.int (l5 + (-1 : Int32))), none]) (st' := [.int (nI 45), .int (l5 + (-1 : Int32)), .ref l2]) bf68_115 bf68_117 rfl rfl).trans ?_
  exact bh bf68_117 bf68_118 rfl (bge_wi) rfl
theorem bk68_100 {w : am_Wd} {l0 : Int32} {l2 : Nat} {l5 : Int32} {l6 : Int32} {s0 : Nat} {s1 : Int32} {s2 : Nat} : am_run 68 100 [some (.int l0), none, some (.ref l2), none, none, some (.int l5), some (.int l6)] [.ref s0, .int s1, .ref s2] w = (am_ri 3 w s0 (-l0)).bind fun v => am_run 68 103 [none, none, some (.ref l2), none, none, some (.int l5), some (.int l6)] (.int v :: [.int s1, .ref s2]) w := by
  refine (bu (ls'' := [none, none, some (.ref l2), none, none, some (.int l5), some (.int l6)]) (st' := [.int l0, .ref s0, .int s1, .ref s2]) bf68_100 bf68_101 rfl rfl).trans ?_
  refine (bu (ls'' := [none, none, some (.ref l2), none, none, some (.int l5), some (.int l6)]) (st' := [.int (-l0), .ref s0, .int s1, .ref s2]) bf68_101 bf68_102 rfl rfl).trans ?_
  exact bh bf68_102 bf68_103 rfl (fun _ _ => am_ge_rf w) rfl
theorem bk68_68 {w : am_Wd} {l0 : Int32} {l2 : Nat} {l5 : Int32} {l6 : Int32} {s0 : Int32} {s1 : Int32} {s2 : Nat} : am_run 68 68 [some (.int l0), none, some (.ref l2), none, none, some (.int l5), some (.int l6)] [.int s0, .int s1, .ref s2] w = (am_wi 3 w s2 s1 (vp_nar .byte s0)).bind fun w' => am_run 68 69 [some (.int l0), none, some (.ref l2), none, none, some (.int l5), some (.int l6)] [] w' := by
  exact bh bf68_68 bf68_69 rfl (bge_wi) rfl
theorem bk68_103 {w : am_Wd} {l2 : Nat} {l5 : Int32} {l6 : Int32} {s0 : Int32} {s1 : Int32} {s2 : Nat} : am_run 68 103 [none, none, some (.ref l2), none, none, some (.int l5), some (.int l6)] [.int s0, .int s1, .ref s2] w = (am_wi 3 w s2 s1 (vp_nar .byte s0)).bind fun w' => am_run 68 104 [none, none, some (.ref l2), none, none, some (.int l5), some (.int l6)] [] w' := by
  exact bh bf68_103 bf68_104 rfl (bge_wi) rfl
theorem bk68_69 {w : am_Wd} {l0 : Int32} {l2 : Nat} {l5 : Int32} {l6 : Int32} : am_run 68 69 [some (.int l0), none, some (.ref l2), none, none, some (.int l5), some (.int l6)] [] w = am_run 68 22 [some (.int l0), none, some (.ref l2), none, none, some (.int l5), some (.int l6)] [] w := by
  refine (bu (ls'' := [some (.int l0), none, some (.ref l2), none, none, some (.int l5), some (.int l6)]) (st' := []) bf68_69 bf68_22 rfl rfl).trans ?_
  rfl
theorem bf69_0 : am_fetch (am_mth 69) 0 = some (.iconst 1, 1, [], [1, 2, 3]) := by decide +kernel
theorem bf69_1 : am_fetch (am_mth 69) 1 = some (.istore_n 1, 1, [], [1, 2, 3]) := by decide +kernel
theorem bf69_2 : am_fetch (am_mth 69) 2 = some (.iload_n 0, 1, [], [2, 3]) := by decide +kernel
theorem bf69_3 : am_fetch (am_mth 69) 3 = some (.ifCond .lt 8, 3, [], [2, 3]) := by decide +kernel
theorem bf69_6 : am_fetch (am_mth 69) 6 = some (.iconst 0, 1, [], [1, 2, 3]) := by decide +kernel
theorem bf69_7 : am_fetch (am_mth 69) 7 = some (.istore_n 1, 1, [], [1, 2, 3]) := by decide +kernel
theorem bf69_8 : am_fetch (am_mth 69) 8 = some (.iload_n 0, 1, [], [2, 3]) := by decide +kernel
theorem bf69_9 : am_fetch (am_mth 69) 9 = some (.ineg, 1, [], [0, 2, 3]) := by decide +kernel
theorem bf69_10 : am_fetch (am_mth 69) 10 = some (.istore_n 0, 1, [], [0, 2, 3]) := by decide +kernel
theorem bf69_11 : am_fetch (am_mth 69) 11 = some (.bipush (-10), 2, [], [2, 3]) := by decide +kernel
theorem bf69_13 : am_fetch (am_mth 69) 13 = some (.istore_n 2, 1, [], [2, 3]) := by decide +kernel
theorem bf69_14 : am_fetch (am_mth 69) 14 = some (.iconst 1, 1, [], [3]) := by decide +kernel
theorem bf69_15 : am_fetch (am_mth 69) 15 = some (.istore_n 3, 1, [], [3]) := by decide +kernel
theorem bf69_16 : am_fetch (am_mth 69) 16 = some (.iload_n 3, 1, [], []) := by decide +kernel
theorem bf69_17 : am_fetch (am_mth 69) 17 = some (.bipush 10, 2, [], []) := by decide +kernel
theorem bf69_19 : am_fetch (am_mth 69) 19 = some (.if_icmp .ge 23, 3, [], []) := by decide +kernel
theorem bf69_22 : am_fetch (am_mth 69) 22 = some (.iload_n 0, 1, [], []) := by decide +kernel
theorem bf69_23 : am_fetch (am_mth 69) 23 = some (.iload_n 2, 1, [], []) := by decide +kernel
theorem bf69_24 : am_fetch (am_mth 69) 24 = some (.if_icmp .le 7, 3, [], []) := by decide +kernel
theorem bf69_27 : am_fetch (am_mth 69) 27 = some (.iload_n 3, 1, [], [0, 2]) := by decide +kernel
theorem bf69_28 : am_fetch (am_mth 69) 28 = some (.iload_n 1, 1, [], [0, 2, 3]) := by decide +kernel
theorem bf69_29 : am_fetch (am_mth 69) 29 = some (.iadd, 1, [], [0, 1, 2, 3]) := by decide +kernel
theorem bf69_30 : am_fetch (am_mth 69) 30 = some (.ireturn, 1, [0], [0, 1, 2, 3]) := by decide +kernel
theorem bf69_31 : am_fetch (am_mth 69) 31 = some (.bipush 10, 2, [], []) := by decide +kernel
theorem bf69_33 : am_fetch (am_mth 69) 33 = some (.iload_n 2, 1, [], []) := by decide +kernel
theorem bf69_34 : am_fetch (am_mth 69) 34 = some (.imul, 1, [], [2]) := by decide +kernel
theorem bf69_35 : am_fetch (am_mth 69) 35 = some (.istore_n 2, 1, [], [2]) := by decide +kernel
theorem bf69_36 : am_fetch (am_mth 69) 36 = some (.iinc 3 1, 3, [], []) := by decide +kernel
theorem bf69_39 : am_fetch (am_mth 69) 39 = some (.goto (-23), 3, [], []) := by decide +kernel
theorem bf69_42 : am_fetch (am_mth 69) 42 = some (.bipush 10, 2, [], [0, 2, 3]) := by decide +kernel
theorem bf69_44 : am_fetch (am_mth 69) 44 = some (.iload_n 1, 1, [], [0, 2, 3]) := by decide +kernel
theorem bf69_45 : am_fetch (am_mth 69) 45 = some (.iadd, 1, [], [0, 1, 2, 3]) := by decide +kernel
theorem bf69_46 : am_fetch (am_mth 69) 46 = some (.ireturn, 1, [0], [0, 1, 2, 3]) := by decide +kernel
theorem bk69_0 {w : am_Wd} {l0 : Int32} : am_run 69 0 [some (.int l0), none, none, none] [] w = if l0 < nI 0 then am_run 69 11 [some (.int l0), some (.int (nI 1)), none, none] [] w else am_run 69 6 [some (.int l0), none, none, none] [] w := by
  refine (bu (ls'' := [some (.int l0), none, none, none]) (st' := [.int (nI 1)]) bf69_0 bf69_1 rfl rfl).trans ?_
  refine (bu (ls'' := [some (.int l0), some (.int (nI 1)), none, none]) (st' := []) bf69_1 bf69_2 rfl rfl).trans ?_
  refine (bu (ls'' := [some (.int l0), some (.int (nI 1)), none, none]) (st' := [.int l0]) bf69_2 bf69_3 rfl rfl).trans ?_
  exact bifc bf69_3 rfl bf69_11 bf69_6 rfl rfl rfl
theorem bk69_11 {w : am_Wd} {l0 : Int32} {l1 : Int32} : am_run 69 11 [some (.int l0), some (.int l1), none, none] [] w = am_run 69 16 [some (.int l0), some (.int l1), some (.int (-10 : Int32)), some (.int (nI 1))] [] w := by
  refine (bu (ls'' := [some (.int l0), some (.int l1), none, none]) (st' := [.int (-10 : Int32)]) bf69_11 bf69_13 rfl rfl).trans ?_
  refine (bu (ls'' := [some (.int l0), some (.int l1), some (.int (-10 : Int32)), none]) (st' := []) bf69_13 bf69_14 rfl rfl).trans ?_
  refine (bu (ls'' := [some (.int l0), some (.int l1), some (.int (-10 : Int32)), none]) (st' := [.int (nI 1)]) bf69_14 bf69_15 rfl rfl).trans ?_
  refine (bu (ls'' := [some (.int l0), some (.int l1), some (.int (-10 : Int32)), some (.int (nI 1))]) (st' := []) bf69_15 bf69_16 rfl rfl).trans ?_
  rfl
theorem bk69_6 {w : am_Wd} {l0 : Int32} : am_run 69 6 [some (.int l0), none, none, none] [] w = am_run 69 11 [some (.int (-l0)), some (.int (nI 0)), none, none] [] w := by
  refine (bu (ls'' := [some (.int l0), none, none, none]) (st' := [.int (nI 0)]) bf69_6 bf69_7 rfl rfl).trans ?_
  refine (bu (ls'' := [some (.int l0), some (.int (nI 0)), none, none]) (st' := []) bf69_7 bf69_8 rfl rfl).trans ?_
  refine (bu (ls'' := [none, some (.int (nI 0)), none, none]) (st' := [.int l0]) bf69_8 bf69_9 rfl rfl).trans ?_
  refine (bu (ls'' := [none, some (.int (nI 0)), none, none]) (st' := [.int (-l0)]) bf69_9 bf69_10 rfl rfl).trans ?_
  refine (bu (ls'' := [some (.int (-l0)), some (.int (nI 0)), none, none]) (st' := []) bf69_10 bf69_11 rfl rfl).trans ?_
  rfl
theorem bk69_16 {w : am_Wd} {l0 : Int32} {l1 : Int32} {l2 : Int32} {l3 : Int32} : am_run 69 16 [some (.int l0), some (.int l1), some (.int l2), some (.int l3)] [] w = if (nI 10) ≤ l3 then am_run 69 42 [none, some (.int l1), none, none] [] w else am_run 69 22 [some (.int l0), some (.int l1), some (.int l2), some (.int l3)] [] w := by
  refine (bu (ls'' := [some (.int l0), some (.int l1), some (.int l2), some (.int l3)]) (st' := [.int l3]) bf69_16 bf69_17 rfl rfl).trans ?_
  refine (bu (ls'' := [some (.int l0), some (.int l1), some (.int l2), some (.int l3)]) (st' := [.int (nI 10), .int l3]) bf69_17 bf69_19 rfl rfl).trans ?_
  exact bic bf69_19 rfl bf69_42 bf69_22 rfl rfl rfl
theorem bk69_42 {w : am_Wd} {l1 : Int32} : am_run 69 42 [none, some (.int l1), none, none] [] w = some (.inl (some (.int ((nI 10) + l1))), w) := by
  refine (bu (ls'' := [none, some (.int l1), none, none]) (st' := [.int (nI 10)]) bf69_42 bf69_44 rfl rfl).trans ?_
  refine (bu (ls'' := [none, none, none, none]) (st' := [.int l1, .int (nI 10)]) bf69_44 bf69_45 rfl rfl).trans ?_
  refine (bu (ls'' := [none, none, none, none]) (st' := [.int ((nI 10) + l1)]) bf69_45 bf69_46 rfl rfl).trans ?_
  exact am_e2 bf69_46 rfl (am_ge_rf w)
theorem bk69_22 {w : am_Wd} {l0 : Int32} {l1 : Int32} {l2 : Int32} {l3 : Int32} : am_run 69 22 [some (.int l0), some (.int l1), some (.int l2), some (.int l3)] [] w = if l0 ≤ l2 then am_run 69 31 [some (.int l0), some (.int l1), some (.int l2), some (.int l3)] [] w else am_run 69 27 [none, some (.int l1), none, some (.int l3)] [] w := by
  refine (bu (ls'' := [some (.int l0), some (.int l1), some (.int l2), some (.int l3)]) (st' := [.int l0]) bf69_22 bf69_23 rfl rfl).trans ?_
  refine (bu (ls'' := [some (.int l0), some (.int l1), some (.int l2), some (.int l3)]) (st' := [.int l2, .int l0]) bf69_23 bf69_24 rfl rfl).trans ?_
  exact bic bf69_24 rfl bf69_31 bf69_27 rfl rfl rfl
theorem bk69_31 {w : am_Wd} {l0 : Int32} {l1 : Int32} {l2 : Int32} {l3 : Int32} : am_run 69 31 [some (.int l0), some (.int l1), some (.int l2), some (.int l3)] [] w = am_run 69 16 [some (.int l0), some (.int l1), some (.int ((nI 10) * l2)), some (.int (l3 + (nI 1)))] [] w := by
  refine (bu (ls'' := [some (.int l0), some (.int l1), some (.int l2), some (.int l3)]) (st' := [.int (nI 10)]) bf69_31 bf69_33 rfl rfl).trans ?_
  refine (bu (ls'' := [some (.int l0), some (.int l1), none, some (.int l3)]) (st' := [.int l2, .int (nI 10)]) bf69_33 bf69_34 rfl rfl).trans ?_
  refine (bu (ls'' := [some (.int l0), some (.int l1), none, some (.int l3)]) (st' := [.int ((nI 10) * l2)]) bf69_34 bf69_35 rfl rfl).trans ?_
  refine (bu (ls'' := [some (.int l0), some (.int l1), some (.int ((nI 10) * l2)), some (.int l3)]) (st' := []) bf69_35 bf69_36 rfl rfl).trans ?_
  refine (bu (ls'' := [some (.int l0), some (.int l1), some (.int ((nI 10) * l2)), some (.int (l3 + (nI 1)))]) (st' := []) bf69_36 bf69_39 rfl rfl).trans ?_
  refine (bu (ls'' := [some (.int l0), some (.int l1), some (.int ((nI 10) * l2)), some (.int (l3 + (nI 1)))]) (st' := []) bf69_39 bf69_16 rfl rfl).trans ?_
  rfl
theorem bk69_27 {w : am_Wd} {l1 : Int32} {l3 : Int32} : am_run 69 27 [none, some (.int l1), none, some (.int l3)] [] w = some (.inl (some (.int (l3 + l1))), w) := by
  refine (bu (ls'' := [none, some (.int l1), none, none]) (st' := [.int l3]) bf69_27 bf69_28 rfl rfl).trans ?_
  refine (bu (ls'' := [none, none, none, none]) (st' := [.int l1, .int l3]) bf69_28 bf69_29 rfl rfl).trans ?_
  refine (bu (ls'' := [none, none, none, none]) (st' := [.int (l3 + l1)]) bf69_29 bf69_30 rfl rfl).trans ?_
  exact am_e2 bf69_30 rfl (am_ge_rf w)
theorem bf70_0 : am_fetch (am_mth 70) 0 = some (.iload_n 1, 1, [], []) := by decide +kernel
theorem bf70_1 : am_fetch (am_mth 70) 1 = some (.iload_n 0, 1, [], [1]) := by decide +kernel
theorem bf70_2 : am_fetch (am_mth 70) 2 = some (.if_icmp .ge 35, 3, [], [0, 1]) := by decide +kernel
theorem bf70_36 : am_fetch (am_mth 70) 36 = some (.athrow, 1, [], [0, 1]) := by decide +kernel
theorem bf70_37 : am_fetch (am_mth 70) 37 = some (.return_, 1, [], [0, 1]) := by decide +kernel
theorem bk70_0 {w : am_Wd} {l0 : Int32} {l1 : Int32} (hq : l0 ≤ l1) : am_run 70 0 [some (.int l0), some (.int l1)] [] w = am_run 70 37 [none, none] [] w := by
  refine (bu (ls'' := [some (.int l0), none]) (st' := [.int l1]) bf70_0 bf70_1 rfl rfl).trans ?_
  refine (bu (ls'' := [none, none]) (st' := [.int l0, .int l1]) bf70_1 bf70_2 rfl rfl).trans ?_
  refine bu (ls' := [none, none]) bf70_2 bf70_37 ?_ rfl
  show am_br (decide (l0 ≤ l1)) 2 35 _ _ _ = _
  rw [decide_eq_true hq]
  rfl
theorem bk70_37 {w : am_Wd}  : am_run 70 37 [none, none] [] w = some (.inl none, w) := by
  exact am_e2 bf70_37 rfl (am_ge_rf w)
theorem bf108_0 : am_fetch (am_mth 108) 0 = some (.iload_n 0, 1, [], []) := by decide +kernel
theorem bf108_1 : am_fetch (am_mth 108) 1 = some (.iload_n 1, 1, [], [0]) := by decide +kernel
theorem bf108_2 : am_fetch (am_mth 108) 2 = some (.getstatic 1053, 3, [1, 4, 933], [0, 1]) := by decide +kernel
theorem bf108_5 : am_fetch (am_mth 108) 5 = some (.invokestatic 1059, 3, [0, 58, 3, 956, 957, 71], [0, 1]) := by decide +kernel
theorem bf108_8 : am_fetch (am_mth 108) 8 = some (.pop, 1, [], [0, 1]) := by decide +kernel
theorem bf108_9 : am_fetch (am_mth 108) 9 = some (.return_, 1, [], [0, 1]) := by decide +kernel
theorem bk108_0 {w : am_Wd} {l0 : Int32} {l1 : Int32} {sg : Nat} (hg : w.2.2.2 4 = some sg) : am_run 108 0 [some (.int l0), some (.int l1)] [] w = am_run 108 5 [none, none] (.ref sg :: [.int l1, .int l0]) w := by
  refine (bu (ls'' := [none, some (.int l1)]) (st' := [.int l0]) bf108_0 bf108_1 rfl rfl).trans ?_
  refine (bu (ls'' := [none, none]) (st' := [.int l1, .int l0]) bf108_1 bf108_2 rfl rfl).trans ?_
  exact bu (ls'' := [none, none]) (st' := .ref sg :: [.int l1, .int l0]) bf108_2 bf108_5 (by show some _ = _; rw [hg]; rfl) rfl
theorem bk108_5 {w : am_Wd} {s0 : Nat} {s1 : Int32} {s2 : Int32} : am_run 108 5 [none, none] [.ref s0, .int s1, .int s2] w = (am_x 58 [.int s2, .int s1, .ref s0] w).bind fun r => bct r fun v w' => am_run 108 8 [none, none] (v.toList ++ []) w' := by
  exact bkS bf108_5 bf108_8 rfl (by decide +kernel) (Nat.le_of_ble_eq_true rfl) rfl (bhd rfl)
theorem bk108_8 {w : am_Wd} {s0 : Int32} : am_run 108 8 [none, none] [.int s0] w = some (.inl none, w) := by
  refine (bu (ls'' := [none, none]) (st' := []) bf108_8 bf108_9 rfl rfl).trans ?_
  exact am_e2 bf108_9 rfl (am_ge_rf w)
theorem bf109_0 : am_fetch (am_mth 109) 0 = some (.aload_n 0, 1, [], []) := by decide +kernel
theorem bf109_1 : am_fetch (am_mth 109) 1 = some (.invokevirtual 335, 3, [0, 59, 0, 0, 1054, 1055, 1056, 75], []) := by decide +kernel
theorem bf109_4 : am_fetch (am_mth 109) 4 = some (.iload_n 3, 1, [], []) := by decide +kernel
theorem bf109_5 : am_fetch (am_mth 109) 5 = some (.if_icmp .ne 23, 3, [], []) := by decide +kernel
theorem bf109_8 : am_fetch (am_mth 109) 8 = some (.aload_n 0, 1, [], []) := by decide +kernel
theorem bf109_9 : am_fetch (am_mth 109) 9 = some (.getfield 9, 3, [0, 0, 0, 1089], []) := by decide +kernel
theorem bf109_12 : am_fetch (am_mth 109) 12 = some (.iconst 0, 1, [], []) := by decide +kernel
theorem bf109_13 : am_fetch (am_mth 109) 13 = some (.aload_n 1, 1, [], []) := by decide +kernel
theorem bf109_14 : am_fetch (am_mth 109) 14 = some (.iload_n 2, 1, [], [1]) := by decide +kernel
theorem bf109_15 : am_fetch (am_mth 109) 15 = some (.iload_n 3, 1, [], [1, 2]) := by decide +kernel
theorem bf109_16 : am_fetch (am_mth 109) 16 = some (.ishl, 1, [], [1, 2, 3]) := by decide +kernel
theorem bf109_17 : am_fetch (am_mth 109) 17 = some (.aload_n 0, 1, [], [1, 2, 3]) := by decide +kernel
theorem bf109_18 : am_fetch (am_mth 109) 18 = some (.getfield 9, 3, [0, 0, 0, 1089], [0, 1, 2, 3]) := by decide +kernel
theorem bf109_21 : am_fetch (am_mth 109) 21 = some (.arraylength, 1, [], [0, 1, 2, 3]) := by decide +kernel
theorem bf109_22 : am_fetch (am_mth 109) 22 = some (.invokestatic 212, 3, [4, 1072, 905, 904, 69], [0, 1, 2, 3]) := by decide +kernel
theorem bf109_25 : am_fetch (am_mth 109) 25 = some (.goto 18, 3, [], [0, 1, 2, 3]) := by decide +kernel
theorem bf109_28 : am_fetch (am_mth 109) 28 = some (.aload_n 0, 1, [], [3]) := by decide +kernel
theorem bf109_29 : am_fetch (am_mth 109) 29 = some (.getfield 9, 3, [0, 0, 0, 1089], [3]) := by decide +kernel
theorem bf109_32 : am_fetch (am_mth 109) 32 = some (.iconst 0, 1, [], [3]) := by decide +kernel
theorem bf109_33 : am_fetch (am_mth 109) 33 = some (.aload_n 1, 1, [], [3]) := by decide +kernel
theorem bf109_34 : am_fetch (am_mth 109) 34 = some (.iload_n 2, 1, [], [1, 3]) := by decide +kernel
theorem bf109_35 : am_fetch (am_mth 109) 35 = some (.aload_n 0, 1, [], [1, 2, 3]) := by decide +kernel
theorem bf109_36 : am_fetch (am_mth 109) 36 = some (.getfield 9, 3, [0, 0, 0, 1089], [0, 1, 2, 3]) := by decide +kernel
theorem bf109_39 : am_fetch (am_mth 109) 39 = some (.arraylength, 1, [], [0, 1, 2, 3]) := by decide +kernel
theorem bf109_40 : am_fetch (am_mth 109) 40 = some (.invokestatic 106, 3, [], [0, 1, 2, 3]) := by decide +kernel
theorem bf109_43 : am_fetch (am_mth 109) 43 = some (.return_, 1, [], [0, 1, 2, 3]) := by decide +kernel
theorem bk109_0 {w : am_Wd} {l0 : Nat} {l1 : Nat} {l2 : Int32} {l3 : Int32} : am_run 109 0 [some (.ref l0), some (.ref l1), some (.int l2), some (.int l3)] [] w = (am_kf w l0 0).bind fun _ => (am_x 59 [.ref l0] w).bind fun r => bct r fun v w' => am_run 109 4 [some (.ref l0), some (.ref l1), some (.int l2), some (.int l3)] (v.toList ++ []) w' := by
  refine (bu (ls'' := [some (.ref l0), some (.ref l1), some (.int l2), some (.int l3)]) (st' := [.ref l0]) bf109_0 bf109_1 rfl rfl).trans ?_
  exact bkV bf109_1 bf109_4 rfl (by decide +kernel) (Nat.le_of_ble_eq_true rfl) rfl (bhd rfl)
theorem bk109_4 {w : am_Wd} {l0 : Nat} {l1 : Nat} {l2 : Int32} {l3 : Int32} {s0 : Int32} : am_run 109 4 [some (.ref l0), some (.ref l1), some (.int l2), some (.int l3)] [.int s0] w = if ¬ s0 = l3 then am_run 109 28 [some (.ref l0), some (.ref l1), some (.int l2), none] [] w else am_run 109 8 [some (.ref l0), some (.ref l1), some (.int l2), some (.int l3)] [] w := by
  refine (bu (ls'' := [some (.ref l0), some (.ref l1), some (.int l2), some (.int l3)]) (st' := [.int l3, .int s0]) bf109_4 bf109_5 rfl rfl).trans ?_
  exact bic bf109_5 rfl bf109_28 bf109_8 rfl rfl rfl
theorem bk109_28 {w : am_Wd} {l0 : Nat} {l1 : Nat} {l2 : Int32} : am_run 109 28 [some (.ref l0), some (.ref l1), some (.int l2), none] [] w = (am_gf w l0 0 0).bind fun v => am_run 109 32 [some (.ref l0), some (.ref l1), some (.int l2), none] (v :: []) w := by
  refine (bu (ls'' := [some (.ref l0), some (.ref l1), some (.int l2), none]) (st' := [.ref l0]) bf109_28 bf109_29 rfl rfl).trans ?_
  exact bh bf109_29 bf109_32 rfl (fun _ _ => am_ge_rf w) rfl
theorem bk109_8 {w : am_Wd} {l0 : Nat} {l1 : Nat} {l2 : Int32} {l3 : Int32} : am_run 109 8 [some (.ref l0), some (.ref l1), some (.int l2), some (.int l3)] [] w = (am_gf w l0 0 0).bind fun v => am_run 109 12 [some (.ref l0), some (.ref l1), some (.int l2), some (.int l3)] (v :: []) w := by
  refine (bu (ls'' := [some (.ref l0), some (.ref l1), some (.int l2), some (.int l3)]) (st' := [.ref l0]) bf109_8 bf109_9 rfl rfl).trans ?_
  exact bh bf109_9 bf109_12 rfl (fun _ _ => am_ge_rf w) rfl
theorem bk109_32 {w : am_Wd} {l0 : Nat} {l1 : Nat} {l2 : Int32} {s0 : Nat} : am_run 109 32 [some (.ref l0), some (.ref l1), some (.int l2), none] [.ref s0] w = (am_gf w l0 0 0).bind fun v => am_run 109 39 [none, none, none, none] (v :: [.int l2, .ref l1, .int (nI 0), .ref s0]) w := by
  refine (bu (ls'' := [some (.ref l0), some (.ref l1), some (.int l2), none]) (st' := [.int (nI 0), .ref s0]) bf109_32 bf109_33 rfl rfl).trans ?_
  refine (bu (ls'' := [some (.ref l0), none, some (.int l2), none]) (st' := [.ref l1, .int (nI 0), .ref s0]) bf109_33 bf109_34 rfl rfl).trans ?_
  refine (bu (ls'' := [some (.ref l0), none, none, none]) (st' := [.int l2, .ref l1, .int (nI 0), .ref s0]) bf109_34 bf109_35 rfl rfl).trans ?_
  refine (bu (ls'' := [none, none, none, none]) (st' := [.ref l0, .int l2, .ref l1, .int (nI 0), .ref s0]) bf109_35 bf109_36 rfl rfl).trans ?_
  exact bh bf109_36 bf109_39 rfl (fun _ _ => am_ge_rf w) rfl
theorem bk109_12 {w : am_Wd} {l0 : Nat} {l1 : Nat} {l2 : Int32} {l3 : Int32} {s0 : Nat} : am_run 109 12 [some (.ref l0), some (.ref l1), some (.int l2), some (.int l3)] [.ref s0] w = (am_gf w l0 0 0).bind fun v => am_run 109 21 [none, none, none, none] (v :: [.int (bj_ishl l2 l3), .ref l1, .int (nI 0), .ref s0]) w := by
  refine (bu (ls'' := [some (.ref l0), some (.ref l1), some (.int l2), some (.int l3)]) (st' := [.int (nI 0), .ref s0]) bf109_12 bf109_13 rfl rfl).trans ?_
  refine (bu (ls'' := [some (.ref l0), none, some (.int l2), some (.int l3)]) (st' := [.ref l1, .int (nI 0), .ref s0]) bf109_13 bf109_14 rfl rfl).trans ?_
  refine (bu (ls'' := [some (.ref l0), none, none, some (.int l3)]) (st' := [.int l2, .ref l1, .int (nI 0), .ref s0]) bf109_14 bf109_15 rfl rfl).trans ?_
  refine (bu (ls'' := [some (.ref l0), none, none, none]) (st' := [.int l3, .int l2, .ref l1, .int (nI 0), .ref s0]) bf109_15 bf109_16 rfl rfl).trans ?_
  refine (bu (ls'' := [some (.ref l0), none, none, none]) (st' := [.int (bj_ishl l2 l3), .ref l1, .int (nI 0), .ref s0]) bf109_16 bf109_17 rfl rfl).trans ?_
  refine (bu (ls'' := [none, none, none, none]) (st' := [.ref l0, .int (bj_ishl l2 l3), .ref l1, .int (nI 0), .ref s0]) bf109_17 bf109_18 rfl rfl).trans ?_
  exact bh bf109_18 bf109_21 rfl (fun _ _ => am_ge_rf w) rfl
theorem bk109_39 {w : am_Wd} {s0 : Nat} {s1 : Int32} {s2 : Nat} {s3 : Int32} {s4 : Nat} : am_run 109 39 [none, none, none, none] [.ref s0, .int s1, .ref s2, .int s3, .ref s4] w = (am_len w s0).bind fun v => am_run 109 40 [none, none, none, none] (.int (nI v) :: [.int s1, .ref s2, .int s3, .ref s4]) w := by
  exact bh bf109_39 bf109_40 rfl (fun _ _ => am_ge_rf w) rfl
theorem bk109_21 {w : am_Wd} {s0 : Nat} {s1 : Int32} {s2 : Nat} {s3 : Int32} {s4 : Nat} : am_run 109 21 [none, none, none, none] [.ref s0, .int s1, .ref s2, .int s3, .ref s4] w = (am_len w s0).bind fun v => am_run 109 22 [none, none, none, none] (.int (nI v) :: [.int s1, .ref s2, .int s3, .ref s4]) w := by
  exact bh bf109_21 bf109_22 rfl (fun _ _ => am_ge_rf w) rfl
-- bk109_40: list index out of range
theorem bk109_22 {w : am_Wd} {s0 : Int32} {s1 : Int32} {s2 : Nat} {s3 : Int32} {s4 : Nat} : am_run 109 22 [none, none, none, none] [.int s0, .int s1, .ref s2, .int s3, .ref s4] w = (am_cy w s4 s3 s2 s1 s0).bind fun w' => am_run 109 25 [none, none, none, none] [] w' := by
  exact bh bf109_22 bf109_25 rfl (bge_cy) rfl
theorem bk109_25 {w : am_Wd}  : am_run 109 25 [none, none, none, none] [] w = am_run 109 43 [none, none, none, none] [] w := by
  refine (bu (ls'' := [none, none, none, none]) (st' := []) bf109_25 bf109_43 rfl rfl).trans ?_
  rfl
theorem bk109_43 {w : am_Wd}  : am_run 109 43 [none, none, none, none] [] w = some (.inl none, w) := by
  exact am_e2 bf109_43 rfl (am_ge_rf w)
theorem bf110_0 : am_fetch (am_mth 110) 0 = some (.aload_n 0, 1, [], []) := by decide +kernel
theorem bf110_1 : am_fetch (am_mth 110) 1 = some (.getfield 9, 3, [0, 0, 0, 1089], []) := by decide +kernel
theorem bf110_4 : am_fetch (am_mth 110) 4 = some (.arraylength, 1, [], []) := by decide +kernel
theorem bf110_5 : am_fetch (am_mth 110) 5 = some (.aload_n 0, 1, [], []) := by decide +kernel
theorem bf110_6 : am_fetch (am_mth 110) 6 = some (.invokevirtual 335, 3, [0, 59, 0, 0, 1054, 1055, 1056, 75], [0]) := by decide +kernel
theorem bf110_9 : am_fetch (am_mth 110) 9 = some (.ishr, 1, [], [0]) := by decide +kernel
theorem bf110_10 : am_fetch (am_mth 110) 10 = some (.ireturn, 1, [0], [0]) := by decide +kernel
theorem bk110_0 {w : am_Wd} {l0 : Nat} : am_run 110 0 [some (.ref l0)] [] w = (am_gf w l0 0 0).bind fun v => am_run 110 4 [some (.ref l0)] (v :: []) w := by
  refine (bu (ls'' := [some (.ref l0)]) (st' := [.ref l0]) bf110_0 bf110_1 rfl rfl).trans ?_
  exact bh bf110_1 bf110_4 rfl (fun _ _ => am_ge_rf w) rfl
theorem bk110_4 {w : am_Wd} {l0 : Nat} {s0 : Nat} : am_run 110 4 [some (.ref l0)] [.ref s0] w = (am_len w s0).bind fun v => am_run 110 5 [some (.ref l0)] (.int (nI v) :: []) w := by
  exact bh bf110_4 bf110_5 rfl (fun _ _ => am_ge_rf w) rfl
theorem bk110_5 {w : am_Wd} {l0 : Nat} {s0 : Int32} : am_run 110 5 [some (.ref l0)] [.int s0] w = (am_kf w l0 0).bind fun _ => (am_x 59 [.ref l0] w).bind fun r => bct r fun v w' => am_run 110 9 [none] (v.toList ++ [.int s0]) w' := by
  refine (bu (ls'' := [none]) (st' := [.ref l0, .int s0]) bf110_5 bf110_6 rfl rfl).trans ?_
  exact bkV bf110_6 bf110_9 rfl (by decide +kernel) (Nat.le_of_ble_eq_true rfl) rfl (bhd rfl)
theorem bk110_9 {w : am_Wd} {s0 : Int32} {s1 : Int32} : am_run 110 9 [none] [.int s0, .int s1] w = some (.inl (some (.int (bj_ishr s1 s0))), w) := by
  refine (bu (ls'' := [none]) (st' := [.int (bj_ishr s1 s0)]) bf110_9 bf110_10 rfl rfl).trans ?_
  exact am_e2 bf110_10 rfl (am_ge_rf w)
theorem bf111_0 : am_fetch (am_mth 111) 0 = some (.aload_n 0, 1, [], []) := by decide +kernel
theorem bf111_1 : am_fetch (am_mth 111) 1 = some (.bipush 16, 2, [], [0]) := by decide +kernel
theorem bf111_3 : am_fetch (am_mth 111) 3 = some (.invokespecial 1, 3, [0, 65, 1, 840, 841, 73], [0]) := by decide +kernel
theorem bf111_6 : am_fetch (am_mth 111) 6 = some (.return_, 1, [], [0]) := by decide +kernel
theorem bk111_0 {w : am_Wd} {l0 : Nat} : am_run 111 0 [some (.ref l0)] [] w = (am_x 65 [.ref l0, .int (nI 16)] w).bind fun r => bct r fun v w' => am_run 111 6 [none] (v.toList ++ []) w' := by
  refine (bu (ls'' := [none]) (st' := [.ref l0]) bf111_0 bf111_1 rfl rfl).trans ?_
  refine (bu (ls'' := [none]) (st' := [.int (nI 16), .ref l0]) bf111_1 bf111_3 rfl rfl).trans ?_
  exact bkS bf111_3 bf111_6 rfl (by decide +kernel) (Nat.le_of_ble_eq_true rfl) rfl (bhd rfl)
theorem bk111_6 {w : am_Wd}  : am_run 111 6 [none] [] w = some (.inl none, w) := by
  exact am_e2 bf111_6 rfl (am_ge_rf w)
theorem bf112_0 : am_fetch (am_mth 112) 0 = some (.aload_n 0, 1, [], []) := by decide +kernel
theorem bf112_1 : am_fetch (am_mth 112) 1 = some (.invokespecial 343, 3, [2, 67, 0, 1, 986, 982, 865, 981, 73], [0]) := by decide +kernel
theorem bf112_4 : am_fetch (am_mth 112) 4 = some (.ireturn, 1, [0], [0]) := by decide +kernel
theorem bk112_0 {w : am_Wd} {l0 : Nat} : am_run 112 0 [some (.ref l0)] [] w = (am_kf w l0 1).bind fun _ => (am_x 67 [.ref l0] w).bind fun r => bct r fun v w' => am_run 112 4 [none] (v.toList ++ []) w' := by
  refine (bu (ls'' := [none]) (st' := [.ref l0]) bf112_0 bf112_1 rfl rfl).trans ?_
  exact bkV bf112_1 bf112_4 rfl (by decide +kernel) (Nat.le_of_ble_eq_true rfl) rfl (bhd rfl)
theorem bk112_4 {w : am_Wd} {s0 : Int32} : am_run 112 4 [none] [.int s0] w = some (.inl (some (.int s0)), w) := by
  exact am_e2 bf112_4 rfl (am_ge_rf w)
theorem bf113_0 : am_fetch (am_mth 113) 0 = some (.aload_n 0, 1, [], []) := by decide +kernel
theorem bf113_1 : am_fetch (am_mth 113) 1 = some (.aload_n 0, 1, [], []) := by decide +kernel
theorem bf113_2 : am_fetch (am_mth 113) 2 = some (.getfield 79, 3, [0, 1, 3, 856], []) := by decide +kernel
theorem bf113_5 : am_fetch (am_mth 113) 5 = some (.iconst 1, 1, [], []) := by decide +kernel
theorem bf113_6 : am_fetch (am_mth 113) 6 = some (.iadd, 1, [], []) := by decide +kernel
theorem bf113_7 : am_fetch (am_mth 113) 7 = some (.invokevirtual 100, 3, [2, 63, 1, 1, 877, 1711, 1745, 879, 73], []) := by decide +kernel
theorem bf113_10 : am_fetch (am_mth 113) 10 = some (.aload_n 0, 1, [], []) := by decide +kernel
theorem bf113_11 : am_fetch (am_mth 113) 11 = some (.invokevirtual 83, 3, [2, 66, 0, 1, 906, 908, 909, 907, 73], []) := by decide +kernel
theorem bf113_14 : am_fetch (am_mth 113) 14 = some (.ifCond .eq 31, 3, [], []) := by decide +kernel
theorem bf113_17 : am_fetch (am_mth 113) 17 = some (.iload_n 1, 1, [], []) := by decide +kernel
theorem bf113_18 : am_fetch (am_mth 113) 18 = some (.invokestatic 191, 3, [0, 62, 1, 911, 912, 77], []) := by decide +kernel
theorem bf113_21 : am_fetch (am_mth 113) 21 = some (.ifCond .eq 24, 3, [], []) := by decide +kernel
theorem bf113_24 : am_fetch (am_mth 113) 24 = some (.aload_n 0, 1, [], []) := by decide +kernel
theorem bf113_25 : am_fetch (am_mth 113) 25 = some (.getfield 15, 3, [0, 1, 0, 853], []) := by decide +kernel
theorem bf113_28 : am_fetch (am_mth 113) 28 = some (.aload_n 0, 1, [], []) := by decide +kernel
theorem bf113_29 : am_fetch (am_mth 113) 29 = some (.dup, 1, [], []) := by decide +kernel
theorem bf113_30 : am_fetch (am_mth 113) 30 = some (.getfield 79, 3, [0, 1, 3, 856], []) := by decide +kernel
theorem bf113_33 : am_fetch (am_mth 113) 33 = some (.dup_x1, 1, [], []) := by decide +kernel
theorem bf113_34 : am_fetch (am_mth 113) 34 = some (.iconst 1, 1, [], []) := by decide +kernel
theorem bf113_35 : am_fetch (am_mth 113) 35 = some (.iadd, 1, [], []) := by decide +kernel
theorem bf113_36 : am_fetch (am_mth 113) 36 = some (.putfield 79, 3, [0, 1, 3, 856], []) := by decide +kernel
theorem bf113_39 : am_fetch (am_mth 113) 39 = some (.iload_n 1, 1, [], []) := by decide +kernel
theorem bf113_40 : am_fetch (am_mth 113) 40 = some (.i2b, 1, [], [1]) := by decide +kernel
theorem bf113_41 : am_fetch (am_mth 113) 41 = some (.bastore, 1, [3], [1]) := by decide +kernel
theorem bf113_42 : am_fetch (am_mth 113) 42 = some (.goto 33, 3, [], [1]) := by decide +kernel
theorem bf113_45 : am_fetch (am_mth 113) 45 = some (.aload_n 0, 1, [], []) := by decide +kernel
theorem bf113_46 : am_fetch (am_mth 113) 46 = some (.invokevirtual 83, 3, [2, 66, 0, 1, 906, 908, 909, 907, 73], []) := by decide +kernel
theorem bf113_49 : am_fetch (am_mth 113) 49 = some (.ifCond .eq 7, 3, [], []) := by decide +kernel
theorem bf113_52 : am_fetch (am_mth 113) 52 = some (.aload_n 0, 1, [], []) := by decide +kernel
theorem bf113_53 : am_fetch (am_mth 113) 53 = some (.invokevirtual 195, 3, [], []) := by decide +kernel
theorem bf113_56 : am_fetch (am_mth 113) 56 = some (.aload_n 0, 1, [], []) := by decide +kernel
theorem bf113_57 : am_fetch (am_mth 113) 57 = some (.getfield 15, 3, [0, 1, 0, 853], []) := by decide +kernel
theorem bf113_60 : am_fetch (am_mth 113) 60 = some (.aload_n 0, 1, [], []) := by decide +kernel
theorem bf113_61 : am_fetch (am_mth 113) 61 = some (.dup, 1, [], []) := by decide +kernel
theorem bf113_62 : am_fetch (am_mth 113) 62 = some (.getfield 79, 3, [0, 1, 3, 856], []) := by decide +kernel
theorem bf113_65 : am_fetch (am_mth 113) 65 = some (.dup_x1, 1, [], []) := by decide +kernel
theorem bf113_66 : am_fetch (am_mth 113) 66 = some (.iconst 1, 1, [], []) := by decide +kernel
theorem bf113_67 : am_fetch (am_mth 113) 67 = some (.iadd, 1, [], []) := by decide +kernel
theorem bf113_68 : am_fetch (am_mth 113) 68 = some (.putfield 79, 3, [0, 1, 3, 856], []) := by decide +kernel
theorem bf113_71 : am_fetch (am_mth 113) 71 = some (.iload_n 1, 1, [], []) := by decide +kernel
theorem bf113_72 : am_fetch (am_mth 113) 72 = some (.invokestatic 197, 3, [], [1]) := by decide +kernel
theorem bf113_75 : am_fetch (am_mth 113) 75 = some (.aload_n 0, 1, [], [1]) := by decide +kernel
theorem bf113_76 : am_fetch (am_mth 113) 76 = some (.areturn, 1, [], [0, 1]) := by decide +kernel
theorem bk113_0 {w : am_Wd} {l0 : Nat} {l1 : Int32} : am_run 113 0 [some (.ref l0), some (.int l1)] [] w = (am_gf w l0 1 3).bind fun v => am_run 113 5 [some (.ref l0), some (.int l1)] (v :: [.ref l0]) w := by
  refine (bu (ls'' := [some (.ref l0), some (.int l1)]) (st' := [.ref l0]) bf113_0 bf113_1 rfl rfl).trans ?_
  refine (bu (ls'' := [some (.ref l0), some (.int l1)]) (st' := [.ref l0, .ref l0]) bf113_1 bf113_2 rfl rfl).trans ?_
  exact bh bf113_2 bf113_5 rfl (fun _ _ => am_ge_rf w) rfl
theorem bk113_5 {w : am_Wd} {l0 : Nat} {l1 : Int32} {s0 : Int32} {s1 : Nat} : am_run 113 5 [some (.ref l0), some (.int l1)] [.int s0, .ref s1] w = (am_kf w s1 1).bind fun _ => (am_x 63 [.ref s1, .int (s0 + (nI 1))] w).bind fun r => bct r fun v w' => am_run 113 10 [some (.ref l0), some (.int l1)] (v.toList ++ []) w' := by
  refine (bu (ls'' := [some (.ref l0), some (.int l1)]) (st' := [.int (nI 1), .int s0, .ref s1]) bf113_5 bf113_6 rfl rfl).trans ?_
  refine (bu (ls'' := [some (.ref l0), some (.int l1)]) (st' := [.int (s0 + (nI 1)), .ref s1]) bf113_6 bf113_7 rfl rfl).trans ?_
  exact bkV bf113_7 bf113_10 rfl (by decide +kernel) (Nat.le_of_ble_eq_true rfl) rfl (bhd rfl)
theorem bk113_10 {w : am_Wd} {l0 : Nat} {l1 : Int32} : am_run 113 10 [some (.ref l0), some (.int l1)] [] w = (am_kf w l0 1).bind fun _ => (am_x 66 [.ref l0] w).bind fun r => bct r fun v w' => am_run 113 14 [some (.ref l0), some (.int l1)] (v.toList ++ []) w' := by
  refine (bu (ls'' := [some (.ref l0), some (.int l1)]) (st' := [.ref l0]) bf113_10 bf113_11 rfl rfl).trans ?_
  exact bkV bf113_11 bf113_14 rfl (by decide +kernel) (Nat.le_of_ble_eq_true rfl) rfl (bhd rfl)
theorem bk113_14 {w : am_Wd} {l0 : Nat} {l1 : Int32} {s0 : Int32} : am_run 113 14 [some (.ref l0), some (.int l1)] [.int s0] w = if s0 = nI 0 then am_run 113 45 [some (.ref l0), some (.int l1)] [] w else am_run 113 17 [some (.ref l0), some (.int l1)] [] w := by
  exact bifc bf113_14 rfl bf113_45 bf113_17 rfl rfl rfl
theorem bk113_45 {w : am_Wd} {l0 : Nat} {l1 : Int32} : am_run 113 45 [some (.ref l0), some (.int l1)] [] w = (am_kf w l0 1).bind fun _ => (am_x 66 [.ref l0] w).bind fun r => bct r fun v w' => am_run 113 49 [some (.ref l0), some (.int l1)] (v.toList ++ []) w' := by
  refine (bu (ls'' := [some (.ref l0), some (.int l1)]) (st' := [.ref l0]) bf113_45 bf113_46 rfl rfl).trans ?_
  exact bkV bf113_46 bf113_49 rfl (by decide +kernel) (Nat.le_of_ble_eq_true rfl) rfl (bhd rfl)
theorem bk113_17 {w : am_Wd} {l0 : Nat} {l1 : Int32} : am_run 113 17 [some (.ref l0), some (.int l1)] [] w = (am_x 62 [.int l1] w).bind fun r => bct r fun v w' => am_run 113 21 [some (.ref l0), some (.int l1)] (v.toList ++ []) w' := by
  refine (bu (ls'' := [some (.ref l0), some (.int l1)]) (st' := [.int l1]) bf113_17 bf113_18 rfl rfl).trans ?_
  exact bkS bf113_18 bf113_21 rfl (by decide +kernel) (Nat.le_of_ble_eq_true rfl) rfl (bhd rfl)
theorem bk113_49 {w : am_Wd} {l0 : Nat} {l1 : Int32} {s0 : Int32} : am_run 113 49 [some (.ref l0), some (.int l1)] [.int s0] w = if s0 = nI 0 then am_run 113 56 [some (.ref l0), some (.int l1)] [] w else am_run 113 52 [some (.ref l0), some (.int l1)] [] w := by
  exact bifc bf113_49 rfl bf113_56 bf113_52 rfl rfl rfl
theorem bk113_21 {w : am_Wd} {l0 : Nat} {l1 : Int32} {s0 : Int32} : am_run 113 21 [some (.ref l0), some (.int l1)] [.int s0] w = if s0 = nI 0 then am_run 113 45 [some (.ref l0), some (.int l1)] [] w else am_run 113 24 [some (.ref l0), some (.int l1)] [] w := by
  exact bifc bf113_21 rfl bf113_45 bf113_24 rfl rfl rfl
theorem bk113_56 {w : am_Wd} {l0 : Nat} {l1 : Int32} : am_run 113 56 [some (.ref l0), some (.int l1)] [] w = (am_gf w l0 1 0).bind fun v => am_run 113 60 [some (.ref l0), some (.int l1)] (v :: []) w := by
  refine (bu (ls'' := [some (.ref l0), some (.int l1)]) (st' := [.ref l0]) bf113_56 bf113_57 rfl rfl).trans ?_
  exact bh bf113_57 bf113_60 rfl (fun _ _ => am_ge_rf w) rfl
-- bk113_52: list index out of range
theorem bk113_24 {w : am_Wd} {l0 : Nat} {l1 : Int32} : am_run 113 24 [some (.ref l0), some (.int l1)] [] w = (am_gf w l0 1 0).bind fun v => am_run 113 28 [some (.ref l0), some (.int l1)] (v :: []) w := by
  refine (bu (ls'' := [some (.ref l0), some (.int l1)]) (st' := [.ref l0]) bf113_24 bf113_25 rfl rfl).trans ?_
  exact bh bf113_25 bf113_28 rfl (fun _ _ => am_ge_rf w) rfl
theorem bk113_60 {w : am_Wd} {l0 : Nat} {l1 : Int32} {s0 : Nat} : am_run 113 60 [some (.ref l0), some (.int l1)] [.ref s0] w = (am_gf w l0 1 3).bind fun v => am_run 113 65 [some (.ref l0), some (.int l1)] (v :: [.ref l0, .ref s0]) w := by
  refine (bu (ls'' := [some (.ref l0), some (.int l1)]) (st' := [.ref l0, .ref s0]) bf113_60 bf113_61 rfl rfl).trans ?_
  refine (bu (ls'' := [some (.ref l0), some (.int l1)]) (st' := [.ref l0, .ref l0, .ref s0]) bf113_61 bf113_62 rfl rfl).trans ?_
  exact bh bf113_62 bf113_65 rfl (fun _ _ => am_ge_rf w) rfl
theorem bk113_28 {w : am_Wd} {l0 : Nat} {l1 : Int32} {s0 : Nat} : am_run 113 28 [some (.ref l0), some (.int l1)] [.ref s0] w = (am_gf w l0 1 3).bind fun v => am_run 113 33 [some (.ref l0), some (.int l1)] (v :: [.ref l0, .ref s0]) w := by
  refine (bu (ls'' := [some (.ref l0), some (.int l1)]) (st' := [.ref l0, .ref s0]) bf113_28 bf113_29 rfl rfl).trans ?_
  refine (bu (ls'' := [some (.ref l0), some (.int l1)]) (st' := [.ref l0, .ref l0, .ref s0]) bf113_29 bf113_30 rfl rfl).trans ?_
  exact bh bf113_30 bf113_33 rfl (fun _ _ => am_ge_rf w) rfl
theorem bk113_65 {w : am_Wd} {l0 : Nat} {l1 : Int32} {s0 : Int32} {s1 : Nat} {s2 : Nat} : am_run 113 65 [some (.ref l0), some (.int l1)] [.int s0, .ref s1, .ref s2] w = (am_pf w s1 1 3 (.int (s0 + (nI 1)))).bind fun w' => am_run 113 71 [some (.ref l0), some (.int l1)] [.int s0, .ref s2] w' := by
  refine (bu (ls'' := [some (.ref l0), some (.int l1)]) (st' := [.int s0, .ref s1, .int s0, .ref s2]) bf113_65 bf113_66 rfl rfl).trans ?_
  refine (bu (ls'' := [some (.ref l0), some (.int l1)]) (st' := [.int (nI 1), .int s0, .ref s1, .int s0, .ref s2]) bf113_66 bf113_67 rfl rfl).trans ?_
  refine (bu (ls'' := [some (.ref l0), some (.int l1)]) (st' := [.int (s0 + (nI 1)), .ref s1, .int s0, .ref s2]) bf113_67 bf113_68 rfl rfl).trans ?_
  exact bh bf113_68 bf113_71 rfl (bge_pf) rfl
theorem bk113_33 {w : am_Wd} {l0 : Nat} {l1 : Int32} {s0 : Int32} {s1 : Nat} {s2 : Nat} : am_run 113 33 [some (.ref l0), some (.int l1)] [.int s0, .ref s1, .ref s2] w = (am_pf w s1 1 3 (.int (s0 + (nI 1)))).bind fun w' => am_run 113 39 [some (.ref l0), some (.int l1)] [.int s0, .ref s2] w' := by
  refine (bu (ls'' := [some (.ref l0), some (.int l1)]) (st' := [.int s0, .ref s1, .int s0, .ref s2]) bf113_33 bf113_34 rfl rfl).trans ?_
  refine (bu (ls'' := [some (.ref l0), some (.int l1)]) (st' := [.int (nI 1), .int s0, .ref s1, .int s0, .ref s2]) bf113_34 bf113_35 rfl rfl).trans ?_
  refine (bu (ls'' := [some (.ref l0), some (.int l1)]) (st' := [.int (s0 + (nI 1)), .ref s1, .int s0, .ref s2]) bf113_35 bf113_36 rfl rfl).trans ?_
  exact bh bf113_36 bf113_39 rfl (bge_pf) rfl
-- bk113_71: list index out of range
theorem bk113_39 {w : am_Wd} {l0 : Nat} {l1 : Int32} {s0 : Int32} {s1 : Nat} : am_run 113 39 [some (.ref l0), some (.int l1)] [.int s0, .ref s1] w = (am_wi 3 w s1 s0 (vp_nar .byte ((Int32.toInt8 l1).toInt32))).bind fun w' => am_run 113 42 [some (.ref l0), none] [] w' := by
  refine (bu (ls'' := [some (.ref l0), none]) (st' := [.int l1, .int s0, .ref s1]) bf113_39 bf113_40 rfl rfl).trans ?_
  refine (bu (ls'' := [some (.ref l0), none]) (st' := [.int (Int32.toInt8 l1).toInt32, .int s0, .ref s1]) bf113_40 bf113_41 rfl rfl).trans ?_
  exact bh bf113_41 bf113_42 rfl (bge_wi) rfl
theorem bk113_42 {w : am_Wd} {l0 : Nat} : am_run 113 42 [some (.ref l0), none] [] w = am_run 113 75 [some (.ref l0), none] [] w := by
  refine (bu (ls'' := [some (.ref l0), none]) (st' := []) bf113_42 bf113_75 rfl rfl).trans ?_
  rfl
theorem bk113_75 {w : am_Wd} {l0 : Nat} : am_run 113 75 [some (.ref l0), none] [] w = some (.inl (some (.ref l0)), w) := by
  refine (bu (ls'' := [none, none]) (st' := [.ref l0]) bf113_75 bf113_76 rfl rfl).trans ?_
  exact am_e2 bf113_76 rfl (am_ge_rf w)
theorem bf114_0 : am_fetch (am_mth 114) 0 = some (.getstatic 18, 3, [0, 1, 844], []) := by decide +kernel
theorem bf114_3 : am_fetch (am_mth 114) 3 = some (.ifCond .eq 18, 3, [], []) := by decide +kernel
theorem bf114_6 : am_fetch (am_mth 114) 6 = some (.aload_n 0, 1, [], []) := by decide +kernel
theorem bf114_7 : am_fetch (am_mth 114) 7 = some (.getfield 22, 3, [0, 1, 1, 854], []) := by decide +kernel
theorem bf114_10 : am_fetch (am_mth 114) 10 = some (.aload_n 1, 1, [], []) := by decide +kernel
theorem bf114_11 : am_fetch (am_mth 114) 11 = some (.invokevirtual 40, 3, [0, 59, 0, 0, 1067, 1055, 1056, 75], [1]) := by decide +kernel
theorem bf114_14 : am_fetch (am_mth 114) 14 = some (.if_icmp .eq 7, 3, [], [1]) := by decide +kernel
theorem bf114_17 : am_fetch (am_mth 114) 17 = some (.aload_n 0, 1, [], [1]) := by decide +kernel
theorem bf114_18 : am_fetch (am_mth 114) 18 = some (.invokevirtual 195, 3, [], [0, 1]) := by decide +kernel
theorem bf114_21 : am_fetch (am_mth 114) 21 = some (.return_, 1, [], [0, 1]) := by decide +kernel
theorem bk114_0 {w : am_Wd} {l0 : Nat} {l1 : Nat} : am_run 114 0 [some (.ref l0), some (.ref l1)] [] w = if (nI 1) = nI 0 then am_run 114 21 [none, none] [] w else am_run 114 6 [some (.ref l0), some (.ref l1)] [] w := by
  refine (bu (ls'' := [some (.ref l0), some (.ref l1)]) (st' := [.int (nI 1)]) bf114_0 bf114_3 rfl rfl).trans ?_
  exact bifc bf114_3 rfl bf114_21 bf114_6 rfl rfl rfl
theorem bk114_21 {w : am_Wd}  : am_run 114 21 [none, none] [] w = some (.inl none, w) := by
  exact am_e2 bf114_21 rfl (am_ge_rf w)
theorem bk114_6 {w : am_Wd} {l0 : Nat} {l1 : Nat} : am_run 114 6 [some (.ref l0), some (.ref l1)] [] w = (am_gf w l0 1 1).bind fun v => am_run 114 10 [some (.ref l0), some (.ref l1)] (v :: []) w := by
  refine (bu (ls'' := [some (.ref l0), some (.ref l1)]) (st' := [.ref l0]) bf114_6 bf114_7 rfl rfl).trans ?_
  exact bh bf114_7 bf114_10 rfl (fun _ _ => am_ge_rf w) rfl
theorem bk114_10 {w : am_Wd} {l0 : Nat} {l1 : Nat} {s0 : Int32} : am_run 114 10 [some (.ref l0), some (.ref l1)] [.int s0] w = (am_kf w l1 0).bind fun _ => (am_x 59 [.ref l1] w).bind fun r => bct r fun v w' => am_run 114 14 [some (.ref l0), none] (v.toList ++ [.int s0]) w' := by
  refine (bu (ls'' := [some (.ref l0), none]) (st' := [.ref l1, .int s0]) bf114_10 bf114_11 rfl rfl).trans ?_
  exact bkV bf114_11 bf114_14 rfl (by decide +kernel) (Nat.le_of_ble_eq_true rfl) rfl (bhd rfl)
theorem bk114_14 {w : am_Wd} {l0 : Nat} {s0 : Int32} {s1 : Int32} : am_run 114 14 [some (.ref l0), none] [.int s0, .int s1] w = if s1 = s0 then am_run 114 21 [none, none] [] w else am_run 114 17 [some (.ref l0), none] [] w := by
  exact bic bf114_14 rfl bf114_21 bf114_17 rfl rfl rfl
-- bk114_17: list index out of range
theorem bf115_0 : am_fetch (am_mth 115) 0 = some (.iload_n 0, 1, [], [1, 2]) := by decide +kernel
theorem bf115_1 : am_fetch (am_mth 115) 1 = some (.invokestatic 72, 3, [0, 69, 1, 1590, 1009, 78], [1, 2]) := by decide +kernel
theorem bf115_4 : am_fetch (am_mth 115) 4 = some (.istore_n 1, 1, [], [1, 2]) := by decide +kernel
theorem bf115_5 : am_fetch (am_mth 115) 5 = some (.getstatic 13, 3, [0, 1, 1591], [2]) := by decide +kernel
theorem bf115_8 : am_fetch (am_mth 115) 8 = some (.ifCond .eq 24, 3, [], [2]) := by decide +kernel
theorem bf115_11 : am_fetch (am_mth 115) 11 = some (.iload_n 1, 1, [], [2]) := by decide +kernel
theorem bf115_12 : am_fetch (am_mth 115) 12 = some (.newarray .byte, 2, [3, 293], [2]) := by decide +kernel
theorem bf115_14 : am_fetch (am_mth 115) 14 = some (.astore_n 2, 1, [], [2]) := by decide +kernel
theorem bf115_15 : am_fetch (am_mth 115) 15 = some (.iload_n 0, 1, [], []) := by decide +kernel
theorem bf115_16 : am_fetch (am_mth 115) 16 = some (.iload_n 1, 1, [], [0]) := by decide +kernel
theorem bf115_17 : am_fetch (am_mth 115) 17 = some (.aload_n 2, 1, [], [0, 1]) := by decide +kernel
theorem bf115_18 : am_fetch (am_mth 115) 18 = some (.invokestatic 75, 3, [0, 68, 3, 1592, 1012, 78], [0, 1]) := by decide +kernel
theorem bf115_21 : am_fetch (am_mth 115) 21 = some (.pop, 1, [], [0, 1]) := by decide +kernel
theorem bf115_22 : am_fetch (am_mth 115) 22 = some (.new 5, 3, [0, 0, 4, 1593, 967, 75], [0, 1]) := by decide +kernel
theorem bf115_25 : am_fetch (am_mth 115) 25 = some (.dup, 1, [], [0, 1]) := by decide +kernel
theorem bf115_26 : am_fetch (am_mth 115) 26 = some (.aload_n 2, 1, [], [0, 1]) := by decide +kernel
theorem bf115_27 : am_fetch (am_mth 115) 27 = some (.iconst 0, 1, [], [0, 1, 2]) := by decide +kernel
theorem bf115_28 : am_fetch (am_mth 115) 28 = some (.invokespecial 65, 3, [0, 60, 2, 1594, 1595, 75], [0, 1, 2]) := by decide +kernel
theorem bf115_31 : am_fetch (am_mth 115) 31 = some (.areturn, 1, [], [0, 1, 2]) := by decide +kernel
theorem bf115_32 : am_fetch (am_mth 115) 32 = some (.iload_n 1, 1, [], [2]) := by decide +kernel
theorem bf115_33 : am_fetch (am_mth 115) 33 = some (.iconst 2, 1, [], [2]) := by decide +kernel
theorem bf115_34 : am_fetch (am_mth 115) 34 = some (.imul, 1, [], [2]) := by decide +kernel
theorem bf115_35 : am_fetch (am_mth 115) 35 = some (.newarray .byte, 2, [3, 293], [2]) := by decide +kernel
theorem bf115_37 : am_fetch (am_mth 115) 37 = some (.astore_n 2, 1, [], [2]) := by decide +kernel
theorem bf115_38 : am_fetch (am_mth 115) 38 = some (.iload_n 0, 1, [], []) := by decide +kernel
theorem bf115_39 : am_fetch (am_mth 115) 39 = some (.iload_n 1, 1, [], [0]) := by decide +kernel
theorem bf115_40 : am_fetch (am_mth 115) 40 = some (.aload_n 2, 1, [], [0, 1]) := by decide +kernel
theorem bf115_41 : am_fetch (am_mth 115) 41 = some (.invokestatic 79, 3, [], [0, 1]) := by decide +kernel
theorem bf115_44 : am_fetch (am_mth 115) 44 = some (.pop, 1, [], [0, 1]) := by decide +kernel
theorem bf115_45 : am_fetch (am_mth 115) 45 = some (.new 5, 3, [0, 0, 4, 1593, 967, 75], [0, 1]) := by decide +kernel
theorem bf115_48 : am_fetch (am_mth 115) 48 = some (.dup, 1, [], [0, 1]) := by decide +kernel
theorem bf115_49 : am_fetch (am_mth 115) 49 = some (.aload_n 2, 1, [], [0, 1]) := by decide +kernel
theorem bf115_50 : am_fetch (am_mth 115) 50 = some (.iconst 1, 1, [], [0, 1, 2]) := by decide +kernel
theorem bf115_51 : am_fetch (am_mth 115) 51 = some (.invokespecial 65, 3, [0, 60, 2, 1594, 1595, 75], [0, 1, 2]) := by decide +kernel
theorem bf115_54 : am_fetch (am_mth 115) 54 = some (.areturn, 1, [], [0, 1, 2]) := by decide +kernel
theorem bk115_0 {w : am_Wd} {l0 : Int32} : am_run 115 0 [some (.int l0), none, none] [] w = (am_x 69 [.int l0] w).bind fun r => bct r fun v w' => am_run 115 4 [some (.int l0), none, none] (v.toList ++ []) w' := by
  refine (bu (ls'' := [some (.int l0), none, none]) (st' := [.int l0]) bf115_0 bf115_1 rfl rfl).trans ?_
  exact bkS bf115_1 bf115_4 rfl (by decide +kernel) (Nat.le_of_ble_eq_true rfl) rfl (bhd rfl)
theorem bk115_4 {w : am_Wd} {l0 : Int32} {s0 : Int32} : am_run 115 4 [some (.int l0), none, none] [.int s0] w = if (nI 1) = nI 0 then am_run 115 32 [some (.int l0), some (.int s0), none] [] w else am_run 115 11 [some (.int l0), some (.int s0), none] [] w := by
  refine (bu (ls'' := [some (.int l0), some (.int s0), none]) (st' := []) bf115_4 bf115_5 rfl rfl).trans ?_
  refine (bu (ls'' := [some (.int l0), some (.int s0), none]) (st' := [.int (nI 1)]) bf115_5 bf115_8 rfl rfl).trans ?_
  exact bifc bf115_8 rfl bf115_32 bf115_11 rfl rfl rfl
theorem bk115_32 {w : am_Wd} {l0 : Int32} {l1 : Int32} : am_run 115 32 [some (.int l0), some (.int l1), none] [] w = (am_na w 3 (l1 * (nI 2))).bind fun w' => am_run 115 37 [some (.int l0), some (.int l1), none] (.ref w.2.1 :: []) w' := by
  refine (bu (ls'' := [some (.int l0), some (.int l1), none]) (st' := [.int l1]) bf115_32 bf115_33 rfl rfl).trans ?_
  refine (bu (ls'' := [some (.int l0), some (.int l1), none]) (st' := [.int (nI 2), .int l1]) bf115_33 bf115_34 rfl rfl).trans ?_
  refine (bu (ls'' := [some (.int l0), some (.int l1), none]) (st' := [.int (l1 * (nI 2))]) bf115_34 bf115_35 rfl rfl).trans ?_
  exact bh bf115_35 bf115_37 rfl (bge_na) rfl
theorem bk115_11 {w : am_Wd} {l0 : Int32} {l1 : Int32} : am_run 115 11 [some (.int l0), some (.int l1), none] [] w = (am_na w 3 l1).bind fun w' => am_run 115 14 [some (.int l0), some (.int l1), none] (.ref w.2.1 :: []) w' := by
  refine (bu (ls'' := [some (.int l0), some (.int l1), none]) (st' := [.int l1]) bf115_11 bf115_12 rfl rfl).trans ?_
  exact bh bf115_12 bf115_14 rfl (bge_na) rfl
-- bk115_37: list index out of range
theorem bk115_14 {w : am_Wd} {l0 : Int32} {l1 : Int32} {s0 : Nat} : am_run 115 14 [some (.int l0), some (.int l1), none] [.ref s0] w = (am_x 68 [.int l0, .int l1, .ref s0] w).bind fun r => bct r fun v w' => am_run 115 21 [none, none, some (.ref s0)] (v.toList ++ []) w' := by
  refine (bu (ls'' := [some (.int l0), some (.int l1), some (.ref s0)]) (st' := []) bf115_14 bf115_15 rfl rfl).trans ?_
  refine (bu (ls'' := [none, some (.int l1), some (.ref s0)]) (st' := [.int l0]) bf115_15 bf115_16 rfl rfl).trans ?_
  refine (bu (ls'' := [none, none, some (.ref s0)]) (st' := [.int l1, .int l0]) bf115_16 bf115_17 rfl rfl).trans ?_
  refine (bu (ls'' := [none, none, some (.ref s0)]) (st' := [.ref s0, .int l1, .int l0]) bf115_17 bf115_18 rfl rfl).trans ?_
  exact bkS bf115_18 bf115_21 rfl (by decide +kernel) (Nat.le_of_ble_eq_true rfl) rfl (bhd rfl)
theorem bk115_21 {w : am_Wd} {l2 : Nat} {s0 : Int32} : am_run 115 21 [none, none, some (.ref l2)] [.int s0] w = am_run 115 25 [none, none, some (.ref l2)] (.ref w.2.1 :: []) (am_nw w (.inr (0, am_df 0 4)) 4) := by
  refine (bu (ls'' := [none, none, some (.ref l2)]) (st' := []) bf115_21 bf115_22 rfl rfl).trans ?_
  exact bn bf115_22 bf115_25 rfl rfl (am_ge_nw _ _ _)
theorem bk115_25 {w : am_Wd} {l2 : Nat} {s0 : Nat} : am_run 115 25 [none, none, some (.ref l2)] [.ref s0] w = (am_x 60 [.ref s0, .ref l2, .int (nI 0)] w).bind fun r => bct r fun v w' => am_run 115 31 [none, none, none] (v.toList ++ [.ref s0]) w' := by
  refine (bu (ls'' := [none, none, some (.ref l2)]) (st' := [.ref s0, .ref s0]) bf115_25 bf115_26 rfl rfl).trans ?_
  refine (bu (ls'' := [none, none, none]) (st' := [.ref l2, .ref s0, .ref s0]) bf115_26 bf115_27 rfl rfl).trans ?_
  refine (bu (ls'' := [none, none, none]) (st' := [.int (nI 0), .ref l2, .ref s0, .ref s0]) bf115_27 bf115_28 rfl rfl).trans ?_
  exact bkS bf115_28 bf115_31 rfl (by decide +kernel) (Nat.le_of_ble_eq_true rfl) rfl (bhd rfl)
theorem bk115_31 {w : am_Wd} {s0 : Nat} : am_run 115 31 [none, none, none] [.ref s0] w = some (.inl (some (.ref s0)), w) := by
  exact am_e2 bf115_31 rfl (am_ge_rf w)
theorem bf116_0 : am_fetch (am_mth 116) 0 = some (.iload_n 1, 1, [], [3, 4]) := by decide +kernel
theorem bf116_1 : am_fetch (am_mth 116) 1 = some (.iload_n 2, 1, [], [3, 4]) := by decide +kernel
theorem bf116_2 : am_fetch (am_mth 116) 2 = some (.invokestatic 343, 3, [0, 70, 2, 995, 996, 68], [3, 4]) := by decide +kernel
theorem bf116_5 : am_fetch (am_mth 116) 5 = some (.iload_n 2, 1, [], [3, 4]) := by decide +kernel
theorem bf116_6 : am_fetch (am_mth 116) 6 = some (.iload_n 1, 1, [], [2, 3, 4]) := by decide +kernel
theorem bf116_7 : am_fetch (am_mth 116) 7 = some (.isub, 1, [], [2, 3, 4]) := by decide +kernel
theorem bf116_8 : am_fetch (am_mth 116) 8 = some (.istore_n 3, 1, [], [2, 3, 4]) := by decide +kernel
theorem bf116_9 : am_fetch (am_mth 116) 9 = some (.iload_n 3, 1, [], [2, 4]) := by decide +kernel
theorem bf116_10 : am_fetch (am_mth 116) 10 = some (.newarray .byte, 2, [3, 293], [2, 4]) := by decide +kernel
theorem bf116_12 : am_fetch (am_mth 116) 12 = some (.astore 4, 2, [], [2, 4]) := by decide +kernel
theorem bf116_14 : am_fetch (am_mth 116) 14 = some (.aload_n 0, 1, [], [2]) := by decide +kernel
theorem bf116_15 : am_fetch (am_mth 116) 15 = some (.iload_n 1, 1, [], [2]) := by decide +kernel
theorem bf116_16 : am_fetch (am_mth 116) 16 = some (.aload 4, 2, [], [2]) := by decide +kernel
theorem bf116_18 : am_fetch (am_mth 116) 18 = some (.iconst 0, 1, [], [2]) := by decide +kernel
theorem bf116_19 : am_fetch (am_mth 116) 19 = some (.aload_n 0, 1, [], [2]) := by decide +kernel
theorem bf116_20 : am_fetch (am_mth 116) 20 = some (.arraylength, 1, [], [0, 2]) := by decide +kernel
theorem bf116_21 : am_fetch (am_mth 116) 21 = some (.iload_n 1, 1, [], [0, 2]) := by decide +kernel
theorem bf116_22 : am_fetch (am_mth 116) 22 = some (.isub, 1, [], [0, 1, 2]) := by decide +kernel
theorem bf116_23 : am_fetch (am_mth 116) 23 = some (.iload_n 3, 1, [], [0, 1, 2]) := by decide +kernel
theorem bf116_24 : am_fetch (am_mth 116) 24 = some (.invokestatic 304, 3, [2, 902, 191, 59, 192], [0, 1, 2, 3]) := by decide +kernel
theorem bf116_27 : am_fetch (am_mth 116) 27 = some (.invokestatic 150, 3, [4, 903, 905, 904, 69], [0, 1, 2, 3]) := by decide +kernel
theorem bf116_30 : am_fetch (am_mth 116) 30 = some (.aload 4, 2, [], [0, 1, 2, 3]) := by decide +kernel
theorem bf116_32 : am_fetch (am_mth 116) 32 = some (.areturn, 1, [], [0, 1, 2, 3, 4]) := by decide +kernel
theorem bk116_0 {w : am_Wd} {l0 : Nat} {l1 : Int32} {l2 : Int32} : am_run 116 0 [some (.ref l0), some (.int l1), some (.int l2), none, none] [] w = (am_x 70 [.int l1, .int l2] w).bind fun r => bct r fun v w' => am_run 116 5 [some (.ref l0), some (.int l1), some (.int l2), none, none] (v.toList ++ []) w' := by
  refine (bu (ls'' := [some (.ref l0), some (.int l1), some (.int l2), none, none]) (st' := [.int l1]) bf116_0 bf116_1 rfl rfl).trans ?_
  refine (bu (ls'' := [some (.ref l0), some (.int l1), some (.int l2), none, none]) (st' := [.int l2, .int l1]) bf116_1 bf116_2 rfl rfl).trans ?_
  exact bkS bf116_2 bf116_5 rfl (by decide +kernel) (Nat.le_of_ble_eq_true rfl) rfl (bhd rfl)
theorem bk116_5 {w : am_Wd} {l0 : Nat} {l1 : Int32} {l2 : Int32} : am_run 116 5 [some (.ref l0), some (.int l1), some (.int l2), none, none] [] w = (am_na w 3 (l2 - l1)).bind fun w' => am_run 116 12 [some (.ref l0), some (.int l1), none, some (.int (l2 - l1)), none] (.ref w.2.1 :: []) w' := by
  refine (bu (ls'' := [some (.ref l0), some (.int l1), none, none, none]) (st' := [.int l2]) bf116_5 bf116_6 rfl rfl).trans ?_
  refine (bu (ls'' := [some (.ref l0), some (.int l1), none, none, none]) (st' := [.int l1, .int l2]) bf116_6 bf116_7 rfl rfl).trans ?_
  refine (bu (ls'' := [some (.ref l0), some (.int l1), none, none, none]) (st' := [.int (l2 - l1)]) bf116_7 bf116_8 rfl rfl).trans ?_
  refine (bu (ls'' := [some (.ref l0), some (.int l1), none, some (.int (l2 - l1)), none]) (st' := []) bf116_8 bf116_9 rfl rfl).trans ?_
  refine (bu (ls'' := [some (.ref l0), some (.int l1), none, some (.int (l2 - l1)), none]) (st' := [.int (l2 - l1)]) bf116_9 bf116_10 rfl rfl).trans ?_
  exact bh bf116_10 bf116_12 rfl (bge_na) rfl
theorem bk116_12 {w : am_Wd} {l0 : Nat} {l1 : Int32} {l3 : Int32} {s0 : Nat} : am_run 116 12 [some (.ref l0), some (.int l1), none, some (.int l3), none] [.ref s0] w = (am_len w l0).bind fun v => am_run 116 21 [none, some (.int l1), none, some (.int l3), some (.ref s0)] (.int (nI v) :: [.int (nI 0), .ref s0, .int l1, .ref l0]) w := by
  refine (bu (ls'' := [some (.ref l0), some (.int l1), none, some (.int l3), some (.ref s0)]) (st' := []) bf116_12 bf116_14 rfl rfl).trans ?_
  refine (bu (ls'' := [some (.ref l0), some (.int l1), none, some (.int l3), some (.ref s0)]) (st' := [.ref l0]) bf116_14 bf116_15 rfl rfl).trans ?_
  refine (bu (ls'' := [some (.ref l0), some (.int l1), none, some (.int l3), some (.ref s0)]) (st' := [.int l1, .ref l0]) bf116_15 bf116_16 rfl rfl).trans ?_
  refine (bu (ls'' := [some (.ref l0), some (.int l1), none, some (.int l3), some (.ref s0)]) (st' := [.ref s0, .int l1, .ref l0]) bf116_16 bf116_18 rfl rfl).trans ?_
  refine (bu (ls'' := [some (.ref l0), some (.int l1), none, some (.int l3), some (.ref s0)]) (st' := [.int (nI 0), .ref s0, .int l1, .ref l0]) bf116_18 bf116_19 rfl rfl).trans ?_
  refine (bu (ls'' := [none, some (.int l1), none, some (.int l3), some (.ref s0)]) (st' := [.ref l0, .int (nI 0), .ref s0, .int l1, .ref l0]) bf116_19 bf116_20 rfl rfl).trans ?_
  exact bh bf116_20 bf116_21 rfl (fun _ _ => am_ge_rf w) rfl
theorem bk116_21 {w : am_Wd} {l1 : Int32} {l3 : Int32} {l4 : Nat} {s0 : Int32} {s1 : Int32} {s2 : Nat} {s3 : Int32} {s4 : Nat} : am_run 116 21 [none, some (.int l1), none, some (.int l3), some (.ref l4)] [.int s0, .int s1, .ref s2, .int s3, .ref s4] w = (am_cy w s4 s3 s2 s1 (bj_min (s0 - l1) l3)).bind fun w' => am_run 116 30 [none, none, none, none, some (.ref l4)] [] w' := by
  refine (bu (ls'' := [none, none, none, some (.int l3), some (.ref l4)]) (st' := [.int l1, .int s0, .int s1, .ref s2, .int s3, .ref s4]) bf116_21 bf116_22 rfl rfl).trans ?_
  refine (bu (ls'' := [none, none, none, some (.int l3), some (.ref l4)]) (st' := [.int (s0 - l1), .int s1, .ref s2, .int s3, .ref s4]) bf116_22 bf116_23 rfl rfl).trans ?_
  refine (bu (ls'' := [none, none, none, none, some (.ref l4)]) (st' := [.int l3, .int (s0 - l1), .int s1, .ref s2, .int s3, .ref s4]) bf116_23 bf116_24 rfl rfl).trans ?_
  refine (bu (ls'' := [none, none, none, none, some (.ref l4)]) (st' := [.int (bj_min (s0 - l1) l3), .int s1, .ref s2, .int s3, .ref s4]) bf116_24 bf116_27 rfl rfl).trans ?_
  exact bh bf116_27 bf116_30 rfl (bge_cy) rfl
theorem bk116_30 {w : am_Wd} {l4 : Nat} : am_run 116 30 [none, none, none, none, some (.ref l4)] [] w = some (.inl (some (.ref l4)), w) := by
  refine (bu (ls'' := [none, none, none, none, none]) (st' := [.ref l4]) bf116_30 bf116_32 rfl rfl).trans ?_
  exact am_e2 bf116_32 rfl (am_ge_rf w)
theorem bf152_0 : am_fetch (am_mth 152) 0 = some (.iload_n 0, 1, [], []) := by decide +kernel
theorem bf152_1 : am_fetch (am_mth 152) 1 = some (.invokestatic 1022, 3, [0, 115, 1, 1587, 1588, 78], [0]) := by decide +kernel
theorem bf152_4 : am_fetch (am_mth 152) 4 = some (.areturn, 1, [], [0]) := by decide +kernel
theorem bk152_0 {w : am_Wd} {l0 : Int32} : am_run 152 0 [some (.int l0)] [] w = (am_x 115 [.int l0] w).bind fun r => bct r fun v w' => am_run 152 4 [none] (v.toList ++ []) w' := by
  refine (bu (ls'' := [none]) (st' := [.int l0]) bf152_0 bf152_1 rfl rfl).trans ?_
  exact bkS bf152_1 bf152_4 rfl (by decide +kernel) (Nat.le_of_ble_eq_true rfl) rfl (bhd rfl)
theorem bk152_4 {w : am_Wd} {s0 : Nat} : am_run 152 4 [none] [.ref s0] w = some (.inl (some (.ref s0)), w) := by
  exact am_e2 bf152_4 rfl (am_ge_rf w)
theorem bf153_0 : am_fetch (am_mth 153) 0 = some (.iload_n 1, 1, [], []) := by decide +kernel
theorem bf153_1 : am_fetch (am_mth 153) 1 = some (.aload_n 0, 1, [], []) := by decide +kernel
theorem bf153_2 : am_fetch (am_mth 153) 2 = some (.arraylength, 1, [], []) := by decide +kernel
theorem bf153_3 : am_fetch (am_mth 153) 3 = some (.invokestatic 9, 3, [0, 108, 2, 1614, 954, 75], []) := by decide +kernel
theorem bf153_6 : am_fetch (am_mth 153) 6 = some (.aload_n 0, 1, [], []) := by decide +kernel
theorem bf153_7 : am_fetch (am_mth 153) 7 = some (.iload_n 1, 1, [], [0]) := by decide +kernel
theorem bf153_8 : am_fetch (am_mth 153) 8 = some (.baload, 1, [3], [0, 1]) := by decide +kernel
theorem bf153_9 : am_fetch (am_mth 153) 9 = some (.sipush 255, 3, [], [0, 1]) := by decide +kernel
theorem bf153_12 : am_fetch (am_mth 153) 12 = some (.iand, 1, [], [0, 1]) := by decide +kernel
theorem bf153_13 : am_fetch (am_mth 153) 13 = some (.i2c, 1, [], [0, 1]) := by decide +kernel
theorem bf153_14 : am_fetch (am_mth 153) 14 = some (.ireturn, 1, [2], [0, 1]) := by decide +kernel
theorem bk153_0 {w : am_Wd} {l0 : Nat} {l1 : Int32} : am_run 153 0 [some (.ref l0), some (.int l1)] [] w = (am_len w l0).bind fun v => am_run 153 3 [some (.ref l0), some (.int l1)] (.int (nI v) :: [.int l1]) w := by
  refine (bu (ls'' := [some (.ref l0), some (.int l1)]) (st' := [.int l1]) bf153_0 bf153_1 rfl rfl).trans ?_
  refine (bu (ls'' := [some (.ref l0), some (.int l1)]) (st' := [.ref l0, .int l1]) bf153_1 bf153_2 rfl rfl).trans ?_
  exact bh bf153_2 bf153_3 rfl (fun _ _ => am_ge_rf w) rfl
theorem bk153_3 {w : am_Wd} {l0 : Nat} {l1 : Int32} {s0 : Int32} {s1 : Int32} : am_run 153 3 [some (.ref l0), some (.int l1)] [.int s0, .int s1] w = (am_x 108 [.int s1, .int s0] w).bind fun r => bct r fun v w' => am_run 153 6 [some (.ref l0), some (.int l1)] (v.toList ++ []) w' := by
  exact bkS bf153_3 bf153_6 rfl (by decide +kernel) (Nat.le_of_ble_eq_true rfl) rfl (bhd rfl)
theorem bk153_6 {w : am_Wd} {l0 : Nat} {l1 : Int32} : am_run 153 6 [some (.ref l0), some (.int l1)] [] w = (am_ri 3 w l0 l1).bind fun v => am_run 153 9 [none, none] (.int v :: []) w := by
  refine (bu (ls'' := [none, some (.int l1)]) (st' := [.ref l0]) bf153_6 bf153_7 rfl rfl).trans ?_
  refine (bu (ls'' := [none, none]) (st' := [.int l1, .ref l0]) bf153_7 bf153_8 rfl rfl).trans ?_
  exact bh bf153_8 bf153_9 rfl (fun _ _ => am_ge_rf w) rfl
theorem bk153_9 {w : am_Wd} {s0 : Int32} (hb : am_ok (am_rt 2) (.int (bj_i2c (s0 &&& (nI 255)))) = true) : am_run 153 9 [none, none] [.int s0] w = some (.inl (some (.int (bj_i2c (s0 &&& (nI 255))))), w) := by
  refine (bu (ls'' := [none, none]) (st' := [.int (nI 255), .int s0]) bf153_9 bf153_12 rfl rfl).trans ?_
  refine (bu (ls'' := [none, none]) (st' := [.int (s0 &&& (nI 255))]) bf153_12 bf153_13 rfl rfl).trans ?_
  refine (bu (ls'' := [none, none]) (st' := [.int (bj_i2c (s0 &&& (nI 255)))]) bf153_13 bf153_14 rfl rfl).trans ?_
  exact am_e2 bf153_14 (by unfold am_stp; exact if_pos ⟨by decide, hb⟩) (am_ge_rf w)
theorem bf154_0 : am_fetch (am_mth 154) 0 = some (.aload_n 0, 1, [], []) := by decide +kernel
theorem bf154_1 : am_fetch (am_mth 154) 1 = some (.iload_n 1, 1, [], []) := by decide +kernel
theorem bf154_2 : am_fetch (am_mth 154) 2 = some (.invokespecial 50, 3, [2, 113, 1, 1, 874, 1710, 865, 875, 73], [1]) := by decide +kernel
theorem bf154_5 : am_fetch (am_mth 154) 5 = some (.pop, 1, [], [1]) := by decide +kernel
theorem bf154_6 : am_fetch (am_mth 154) 6 = some (.aload_n 0, 1, [], [1]) := by decide +kernel
theorem bf154_7 : am_fetch (am_mth 154) 7 = some (.areturn, 1, [], [0, 1]) := by decide +kernel
theorem bk154_0 {w : am_Wd} {l0 : Nat} {l1 : Int32} : am_run 154 0 [some (.ref l0), some (.int l1)] [] w = (am_kf w l0 1).bind fun _ => (am_x 113 [.ref l0, .int l1] w).bind fun r => bct r fun v w' => am_run 154 5 [some (.ref l0), none] (v.toList ++ []) w' := by
  refine (bu (ls'' := [some (.ref l0), some (.int l1)]) (st' := [.ref l0]) bf154_0 bf154_1 rfl rfl).trans ?_
  refine (bu (ls'' := [some (.ref l0), none]) (st' := [.int l1, .ref l0]) bf154_1 bf154_2 rfl rfl).trans ?_
  exact bkV bf154_2 bf154_5 rfl (by decide +kernel) (Nat.le_of_ble_eq_true rfl) rfl (bhd rfl)
theorem bk154_5 {w : am_Wd} {l0 : Nat} {s0 : Nat} : am_run 154 5 [some (.ref l0), none] [.ref s0] w = some (.inl (some (.ref l0)), w) := by
  refine (bu (ls'' := [some (.ref l0), none]) (st' := []) bf154_5 bf154_6 rfl rfl).trans ?_
  refine (bu (ls'' := [none, none]) (st' := [.ref l0]) bf154_6 bf154_7 rfl rfl).trans ?_
  exact am_e2 bf154_7 rfl (am_ge_rf w)
theorem bf155_0 : am_fetch (am_mth 155) 0 = some (.aload_n 0, 1, [], []) := by decide +kernel
theorem bf155_1 : am_fetch (am_mth 155) 1 = some (.aload_n 2, 1, [], []) := by decide +kernel
theorem bf155_2 : am_fetch (am_mth 155) 2 = some (.invokevirtual 397, 3, [2, 114, 1, 1, 1063, 1718, 1747, 1065, 73], []) := by decide +kernel
theorem bf155_5 : am_fetch (am_mth 155) 5 = some (.aload_n 2, 1, [], []) := by decide +kernel
theorem bf155_6 : am_fetch (am_mth 155) 6 = some (.aload_n 0, 1, [], [2]) := by decide +kernel
theorem bf155_7 : am_fetch (am_mth 155) 7 = some (.getfield 15, 3, [0, 1, 0, 853], [2]) := by decide +kernel
theorem bf155_10 : am_fetch (am_mth 155) 10 = some (.iload_n 1, 1, [], [2]) := by decide +kernel
theorem bf155_11 : am_fetch (am_mth 155) 11 = some (.aload_n 0, 1, [], [1, 2]) := by decide +kernel
theorem bf155_12 : am_fetch (am_mth 155) 12 = some (.getfield 22, 3, [0, 1, 1, 854], [0, 1, 2]) := by decide +kernel
theorem bf155_15 : am_fetch (am_mth 155) 15 = some (.invokevirtual 399, 3, [0, 109, 3, 0, 1068, 1069, 1070, 75], [0, 1, 2]) := by decide +kernel
theorem bf155_18 : am_fetch (am_mth 155) 18 = some (.return_, 1, [], [0, 1, 2]) := by decide +kernel
theorem bk155_0 {w : am_Wd} {l0 : Nat} {l1 : Int32} {l2 : Nat} : am_run 155 0 [some (.ref l0), some (.int l1), some (.ref l2)] [] w = (am_kf w l0 1).bind fun _ => (am_x 114 [.ref l0, .ref l2] w).bind fun r => bct r fun v w' => am_run 155 5 [some (.ref l0), some (.int l1), some (.ref l2)] (v.toList ++ []) w' := by
  refine (bu (ls'' := [some (.ref l0), some (.int l1), some (.ref l2)]) (st' := [.ref l0]) bf155_0 bf155_1 rfl rfl).trans ?_
  refine (bu (ls'' := [some (.ref l0), some (.int l1), some (.ref l2)]) (st' := [.ref l2, .ref l0]) bf155_1 bf155_2 rfl rfl).trans ?_
  exact bkV bf155_2 bf155_5 rfl (by decide +kernel) (Nat.le_of_ble_eq_true rfl) rfl (bhd rfl)
theorem bk155_5 {w : am_Wd} {l0 : Nat} {l1 : Int32} {l2 : Nat} : am_run 155 5 [some (.ref l0), some (.int l1), some (.ref l2)] [] w = (am_gf w l0 1 0).bind fun v => am_run 155 10 [some (.ref l0), some (.int l1), none] (v :: [.ref l2]) w := by
  refine (bu (ls'' := [some (.ref l0), some (.int l1), none]) (st' := [.ref l2]) bf155_5 bf155_6 rfl rfl).trans ?_
  refine (bu (ls'' := [some (.ref l0), some (.int l1), none]) (st' := [.ref l0, .ref l2]) bf155_6 bf155_7 rfl rfl).trans ?_
  exact bh bf155_7 bf155_10 rfl (fun _ _ => am_ge_rf w) rfl
theorem bk155_10 {w : am_Wd} {l0 : Nat} {l1 : Int32} {s0 : Nat} {s1 : Nat} : am_run 155 10 [some (.ref l0), some (.int l1), none] [.ref s0, .ref s1] w = (am_gf w l0 1 1).bind fun v => am_run 155 15 [none, none, none] (v :: [.int l1, .ref s0, .ref s1]) w := by
  refine (bu (ls'' := [some (.ref l0), none, none]) (st' := [.int l1, .ref s0, .ref s1]) bf155_10 bf155_11 rfl rfl).trans ?_
  refine (bu (ls'' := [none, none, none]) (st' := [.ref l0, .int l1, .ref s0, .ref s1]) bf155_11 bf155_12 rfl rfl).trans ?_
  exact bh bf155_12 bf155_15 rfl (fun _ _ => am_ge_rf w) rfl
theorem bk155_15 {w : am_Wd} {s0 : Int32} {s1 : Int32} {s2 : Nat} {s3 : Nat} : am_run 155 15 [none, none, none] [.int s0, .int s1, .ref s2, .ref s3] w = (am_kf w s3 0).bind fun _ => (am_x 109 [.ref s3, .ref s2, .int s1, .int s0] w).bind fun r => bct r fun v w' => am_run 155 18 [none, none, none] (v.toList ++ []) w' := by
  exact bkV bf155_15 bf155_18 rfl (by decide +kernel) (Nat.le_of_ble_eq_true rfl) rfl (bhd rfl)
theorem bk155_18 {w : am_Wd}  : am_run 155 18 [none, none, none] [] w = some (.inl none, w) := by
  exact am_e2 bf155_18 rfl (am_ge_rf w)
theorem bf156_0 : am_fetch (am_mth 156) 0 = some (.iload_n 1, 1, [], []) := by decide +kernel
theorem bf156_1 : am_fetch (am_mth 156) 1 = some (.ifCond .ne 9, 3, [], []) := by decide +kernel
theorem bf156_4 : am_fetch (am_mth 156) 4 = some (.iload_n 2, 1, [], []) := by decide +kernel
theorem bf156_5 : am_fetch (am_mth 156) 5 = some (.aload_n 0, 1, [], []) := by decide +kernel
theorem bf156_6 : am_fetch (am_mth 156) 6 = some (.arraylength, 1, [], []) := by decide +kernel
theorem bf156_7 : am_fetch (am_mth 156) 7 = some (.if_icmp .eq 10, 3, [], []) := by decide +kernel
theorem bf156_10 : am_fetch (am_mth 156) 10 = some (.aload_n 0, 1, [], []) := by decide +kernel
theorem bf156_11 : am_fetch (am_mth 156) 11 = some (.iload_n 1, 1, [], [0]) := by decide +kernel
theorem bf156_12 : am_fetch (am_mth 156) 12 = some (.iload_n 2, 1, [], [0, 1]) := by decide +kernel
theorem bf156_13 : am_fetch (am_mth 156) 13 = some (.invokestatic 339, 3, [0, 116, 3, 992, 993, 68], [0, 1, 2]) := by decide +kernel
theorem bf156_16 : am_fetch (am_mth 156) 16 = some (.areturn, 1, [], [0, 1, 2]) := by decide +kernel
theorem bf156_17 : am_fetch (am_mth 156) 17 = some (.aload_n 0, 1, [], [1, 2]) := by decide +kernel
theorem bf156_18 : am_fetch (am_mth 156) 18 = some (.invokevirtual 310, 3, [], [0, 1, 2]) := by decide +kernel
theorem bf156_21 : am_fetch (am_mth 156) 21 = some (.checkcast 311, 3, [1, 3, 901], [0, 1, 2]) := by decide +kernel
theorem bf156_24 : am_fetch (am_mth 156) 24 = some (.areturn, 1, [], [0, 1, 2]) := by decide +kernel
theorem bk156_0 {w : am_Wd} {l0 : Nat} {l1 : Int32} {l2 : Int32} : am_run 156 0 [some (.ref l0), some (.int l1), some (.int l2)] [] w = if ¬ l1 = nI 0 then am_run 156 10 [some (.ref l0), some (.int l1), some (.int l2)] [] w else am_run 156 4 [some (.ref l0), some (.int l1), some (.int l2)] [] w := by
  refine (bu (ls'' := [some (.ref l0), some (.int l1), some (.int l2)]) (st' := [.int l1]) bf156_0 bf156_1 rfl rfl).trans ?_
  exact bifc bf156_1 rfl bf156_10 bf156_4 rfl rfl rfl
theorem bk156_10 {w : am_Wd} {l0 : Nat} {l1 : Int32} {l2 : Int32} : am_run 156 10 [some (.ref l0), some (.int l1), some (.int l2)] [] w = (am_x 116 [.ref l0, .int l1, .int l2] w).bind fun r => bct r fun v w' => am_run 156 16 [none, none, none] (v.toList ++ []) w' := by
  refine (bu (ls'' := [none, some (.int l1), some (.int l2)]) (st' := [.ref l0]) bf156_10 bf156_11 rfl rfl).trans ?_
  refine (bu (ls'' := [none, none, some (.int l2)]) (st' := [.int l1, .ref l0]) bf156_11 bf156_12 rfl rfl).trans ?_
  refine (bu (ls'' := [none, none, none]) (st' := [.int l2, .int l1, .ref l0]) bf156_12 bf156_13 rfl rfl).trans ?_
  exact bkS bf156_13 bf156_16 rfl (by decide +kernel) (Nat.le_of_ble_eq_true rfl) rfl (bhd rfl)
theorem bk156_4 {w : am_Wd} {l0 : Nat} {l1 : Int32} {l2 : Int32} : am_run 156 4 [some (.ref l0), some (.int l1), some (.int l2)] [] w = (am_len w l0).bind fun v => am_run 156 7 [some (.ref l0), some (.int l1), some (.int l2)] (.int (nI v) :: [.int l2]) w := by
  refine (bu (ls'' := [some (.ref l0), some (.int l1), some (.int l2)]) (st' := [.int l2]) bf156_4 bf156_5 rfl rfl).trans ?_
  refine (bu (ls'' := [some (.ref l0), some (.int l1), some (.int l2)]) (st' := [.ref l0, .int l2]) bf156_5 bf156_6 rfl rfl).trans ?_
  exact bh bf156_6 bf156_7 rfl (fun _ _ => am_ge_rf w) rfl
theorem bk156_16 {w : am_Wd} {s0 : Nat} : am_run 156 16 [none, none, none] [.ref s0] w = some (.inl (some (.ref s0)), w) := by
  exact am_e2 bf156_16 rfl (am_ge_rf w)
theorem bk156_7 {w : am_Wd} {l0 : Nat} {l1 : Int32} {l2 : Int32} {s0 : Int32} {s1 : Int32} : am_run 156 7 [some (.ref l0), some (.int l1), some (.int l2)] [.int s0, .int s1] w = if s1 = s0 then am_run 156 17 [some (.ref l0), none, none] [] w else am_run 156 10 [some (.ref l0), some (.int l1), some (.int l2)] [] w := by
  exact bic bf156_7 rfl bf156_17 bf156_10 rfl rfl rfl
-- bk156_17: list index out of range
theorem bf196_0 : am_fetch (am_mth 196) 0 = some (.aload_n 0, 1, [], []) := by decide +kernel
theorem bf196_1 : am_fetch (am_mth 196) 1 = some (.invokevirtual 492, 3, [0, 61, 0, 0, 1607, 1608, 1609, 75], []) := by decide +kernel
theorem bf196_4 : am_fetch (am_mth 196) 4 = some (.ifCond .eq 12, 3, [], []) := by decide +kernel
theorem bf196_7 : am_fetch (am_mth 196) 7 = some (.aload_n 0, 1, [], []) := by decide +kernel
theorem bf196_8 : am_fetch (am_mth 196) 8 = some (.getfield 9, 3, [0, 0, 0, 1089], [0]) := by decide +kernel
theorem bf196_11 : am_fetch (am_mth 196) 11 = some (.iload_n 1, 1, [], [0]) := by decide +kernel
theorem bf196_12 : am_fetch (am_mth 196) 12 = some (.invokestatic 495, 3, [0, 153, 2, 1611, 1612, 77], [0, 1]) := by decide +kernel
theorem bf196_15 : am_fetch (am_mth 196) 15 = some (.ireturn, 1, [2], [0, 1]) := by decide +kernel
theorem bf196_16 : am_fetch (am_mth 196) 16 = some (.aload_n 0, 1, [], []) := by decide +kernel
theorem bf196_17 : am_fetch (am_mth 196) 17 = some (.getfield 9, 3, [0, 0, 0, 1089], [0]) := by decide +kernel
theorem bf196_20 : am_fetch (am_mth 196) 20 = some (.iload_n 1, 1, [], [0]) := by decide +kernel
theorem bf196_21 : am_fetch (am_mth 196) 21 = some (.invokestatic 498, 3, [], [0, 1]) := by decide +kernel
theorem bf196_24 : am_fetch (am_mth 196) 24 = some (.ireturn, 1, [2], [0, 1]) := by decide +kernel
theorem bk196_0 {w : am_Wd} {l0 : Nat} {l1 : Int32} : am_run 196 0 [some (.ref l0), some (.int l1)] [] w = (am_kf w l0 0).bind fun _ => (am_x 61 [.ref l0] w).bind fun r => bct r fun v w' => am_run 196 4 [some (.ref l0), some (.int l1)] (v.toList ++ []) w' := by
  refine (bu (ls'' := [some (.ref l0), some (.int l1)]) (st' := [.ref l0]) bf196_0 bf196_1 rfl rfl).trans ?_
  exact bkV bf196_1 bf196_4 rfl (by decide +kernel) (Nat.le_of_ble_eq_true rfl) rfl (bhd rfl)
theorem bk196_4 {w : am_Wd} {l0 : Nat} {l1 : Int32} {s0 : Int32} : am_run 196 4 [some (.ref l0), some (.int l1)] [.int s0] w = if s0 = nI 0 then am_run 196 16 [some (.ref l0), some (.int l1)] [] w else am_run 196 7 [some (.ref l0), some (.int l1)] [] w := by
  exact bifc bf196_4 rfl bf196_16 bf196_7 rfl rfl rfl
theorem bk196_16 {w : am_Wd} {l0 : Nat} {l1 : Int32} : am_run 196 16 [some (.ref l0), some (.int l1)] [] w = (am_gf w l0 0 0).bind fun v => am_run 196 20 [none, some (.int l1)] (v :: []) w := by
  refine (bu (ls'' := [none, some (.int l1)]) (st' := [.ref l0]) bf196_16 bf196_17 rfl rfl).trans ?_
  exact bh bf196_17 bf196_20 rfl (fun _ _ => am_ge_rf w) rfl
theorem bk196_7 {w : am_Wd} {l0 : Nat} {l1 : Int32} : am_run 196 7 [some (.ref l0), some (.int l1)] [] w = (am_gf w l0 0 0).bind fun v => am_run 196 11 [none, some (.int l1)] (v :: []) w := by
  refine (bu (ls'' := [none, some (.int l1)]) (st' := [.ref l0]) bf196_7 bf196_8 rfl rfl).trans ?_
  exact bh bf196_8 bf196_11 rfl (fun _ _ => am_ge_rf w) rfl
-- bk196_20: list index out of range
theorem bk196_11 {w : am_Wd} {l1 : Int32} {s0 : Nat} : am_run 196 11 [none, some (.int l1)] [.ref s0] w = (am_x 153 [.ref s0, .int l1] w).bind fun r => bct r fun v w' => am_run 196 15 [none, none] (v.toList ++ []) w' := by
  refine (bu (ls'' := [none, none]) (st' := [.int l1, .ref s0]) bf196_11 bf196_12 rfl rfl).trans ?_
  exact bkS bf196_12 bf196_15 rfl (by decide +kernel) (Nat.le_of_ble_eq_true rfl) rfl (bhd rfl)
theorem bk196_15 {w : am_Wd} {s0 : Int32} (hb : am_ok (am_rt 2) (.int s0) = true) : am_run 196 15 [none, none] [.int s0] w = some (.inl (some (.int s0)), w) := by
  exact am_e2 bf196_15 (by unfold am_stp; exact if_pos ⟨by decide, hb⟩) (am_ge_rf w)
theorem bf197_0 : am_fetch (am_mth 197) 0 = some (.aload_n 0, 1, [], [2, 3, 4]) := by decide +kernel
theorem bf197_1 : am_fetch (am_mth 197) 1 = some (.invokespecial 1, 3, [1, 974, 85, 86], [2, 3, 4]) := by decide +kernel
theorem bf197_4 : am_fetch (am_mth 197) 4 = some (.aload_n 1, 1, [], [2, 3, 4]) := by decide +kernel
theorem bf197_5 : am_fetch (am_mth 197) 5 = some (.invokevirtual 552, 3, [2, 64, 0, 1, 975, 977, 978, 976, 73], [2, 3, 4]) := by decide +kernel
theorem bf197_8 : am_fetch (am_mth 197) 8 = some (.astore_n 3, 1, [], [2, 3, 4]) := by decide +kernel
theorem bf197_9 : am_fetch (am_mth 197) 9 = some (.aload_n 1, 1, [], [2, 4]) := by decide +kernel
theorem bf197_10 : am_fetch (am_mth 197) 10 = some (.invokevirtual 549, 3, [3, 112, 0, 1, 980, 982, 981, 983, 984, 74, 67], [2, 4]) := by decide +kernel
theorem bf197_13 : am_fetch (am_mth 197) 13 = some (.istore 4, 2, [], [2, 4]) := by decide +kernel
theorem bf197_15 : am_fetch (am_mth 197) 15 = some (.aload_n 1, 1, [], [2]) := by decide +kernel
theorem bf197_16 : am_fetch (am_mth 197) 16 = some (.invokevirtual 1047, 3, [2, 66, 0, 1, 988, 908, 909, 907, 73], [2]) := by decide +kernel
theorem bf197_19 : am_fetch (am_mth 197) 19 = some (.ifCond .eq 22, 3, [], [2]) := by decide +kernel
theorem bf197_22 : am_fetch (am_mth 197) 22 = some (.aload_n 0, 1, [], [1, 2]) := by decide +kernel
theorem bf197_23 : am_fetch (am_mth 197) 23 = some (.iconst 0, 1, [], [1, 2]) := by decide +kernel
theorem bf197_24 : am_fetch (am_mth 197) 24 = some (.putfield 15, 3, [0, 0, 1, 1090], [1, 2]) := by decide +kernel
theorem bf197_27 : am_fetch (am_mth 197) 27 = some (.aload_n 0, 1, [], [1, 2]) := by decide +kernel
theorem bf197_28 : am_fetch (am_mth 197) 28 = some (.aload_n 3, 1, [], [0, 1, 2]) := by decide +kernel
theorem bf197_29 : am_fetch (am_mth 197) 29 = some (.iconst 0, 1, [], [0, 1, 2, 3]) := by decide +kernel
theorem bf197_30 : am_fetch (am_mth 197) 30 = some (.iload 4, 2, [], [0, 1, 2, 3]) := by decide +kernel
theorem bf197_32 : am_fetch (am_mth 197) 32 = some (.invokestatic 54, 3, [0, 156, 3, 989, 990, 68], [0, 1, 2, 3, 4]) := by decide +kernel
theorem bf197_35 : am_fetch (am_mth 197) 35 = some (.putfield 9, 3, [0, 0, 0, 1089], [0, 1, 2, 3, 4]) := by decide +kernel
theorem bf197_38 : am_fetch (am_mth 197) 38 = some (.goto 59, 3, [], [0, 1, 2, 3, 4]) := by decide +kernel
theorem bf197_41 : am_fetch (am_mth 197) 41 = some (.getstatic 38, 3, [0, 1, 1058], [2]) := by decide +kernel
theorem bf197_44 : am_fetch (am_mth 197) 44 = some (.ifCond .eq 35, 3, [], [2]) := by decide +kernel
theorem bf197_47 : am_fetch (am_mth 197) 47 = some (.aload_n 1, 1, [], [2]) := by decide +kernel
theorem bf197_48 : am_fetch (am_mth 197) 48 = some (.getfield 1048, 3, [0, 1, 2, 855], [1, 2]) := by decide +kernel
theorem bf197_51 : am_fetch (am_mth 197) 51 = some (.ifCond .eq 28, 3, [], [1, 2]) := by decide +kernel
theorem bf197_54 : am_fetch (am_mth 197) 54 = some (.aload_n 0, 1, [], [1, 2]) := by decide +kernel
theorem bf197_55 : am_fetch (am_mth 197) 55 = some (.aload_n 3, 1, [], [1, 2]) := by decide +kernel
theorem bf197_56 : am_fetch (am_mth 197) 56 = some (.iconst 0, 1, [], [1, 2, 3]) := by decide +kernel
theorem bf197_57 : am_fetch (am_mth 197) 57 = some (.iload 4, 2, [], [1, 2, 3]) := by decide +kernel
theorem bf197_59 : am_fetch (am_mth 197) 59 = some (.invokestatic 1051, 3, [], [1, 2, 3]) := by decide +kernel
theorem bf197_62 : am_fetch (am_mth 197) 62 = some (.putfield 9, 3, [0, 0, 0, 1089], [1, 2, 3]) := by decide +kernel
theorem bf197_65 : am_fetch (am_mth 197) 65 = some (.aload_n 0, 1, [], [1, 2, 3]) := by decide +kernel
theorem bf197_66 : am_fetch (am_mth 197) 66 = some (.aload_n 0, 1, [], [1, 2, 3]) := by decide +kernel
theorem bf197_67 : am_fetch (am_mth 197) 67 = some (.getfield 9, 3, [0, 0, 0, 1089], [0, 1, 2, 3]) := by decide +kernel
theorem bf197_70 : am_fetch (am_mth 197) 70 = some (.iload 4, 2, [], [0, 1, 2, 3]) := by decide +kernel
theorem bf197_72 : am_fetch (am_mth 197) 72 = some (.invokestatic 47, 3, [], [0, 1, 2, 3, 4]) := by decide +kernel
theorem bf197_75 : am_fetch (am_mth 197) 75 = some (.putfield 15, 3, [0, 0, 1, 1090], [0, 1, 2, 3, 4]) := by decide +kernel
theorem bf197_78 : am_fetch (am_mth 197) 78 = some (.return_, 1, [], [0, 1, 2, 3, 4]) := by decide +kernel
theorem bf197_79 : am_fetch (am_mth 197) 79 = some (.aload_n 0, 1, [], [1, 2]) := by decide +kernel
theorem bf197_80 : am_fetch (am_mth 197) 80 = some (.iconst 1, 1, [], [1, 2]) := by decide +kernel
theorem bf197_81 : am_fetch (am_mth 197) 81 = some (.putfield 15, 3, [0, 0, 1, 1090], [1, 2]) := by decide +kernel
theorem bf197_84 : am_fetch (am_mth 197) 84 = some (.aload_n 0, 1, [], [1, 2]) := by decide +kernel
theorem bf197_85 : am_fetch (am_mth 197) 85 = some (.aload_n 3, 1, [], [0, 1, 2]) := by decide +kernel
theorem bf197_86 : am_fetch (am_mth 197) 86 = some (.iconst 0, 1, [], [0, 1, 2, 3]) := by decide +kernel
theorem bf197_87 : am_fetch (am_mth 197) 87 = some (.iload 4, 2, [], [0, 1, 2, 3]) := by decide +kernel
theorem bf197_89 : am_fetch (am_mth 197) 89 = some (.iconst 1, 1, [], [0, 1, 2, 3, 4]) := by decide +kernel
theorem bf197_90 : am_fetch (am_mth 197) 90 = some (.ishl, 1, [], [0, 1, 2, 3, 4]) := by decide +kernel
theorem bf197_91 : am_fetch (am_mth 197) 91 = some (.invokestatic 54, 3, [0, 156, 3, 989, 990, 68], [0, 1, 2, 3, 4]) := by decide +kernel
theorem bf197_94 : am_fetch (am_mth 197) 94 = some (.putfield 9, 3, [0, 0, 0, 1089], [0, 1, 2, 3, 4]) := by decide +kernel
theorem bf197_97 : am_fetch (am_mth 197) 97 = some (.return_, 1, [], [0, 1, 2, 3, 4]) := by decide +kernel
theorem bk197_0 {w : am_Wd} {l0 : Nat} {l1 : Nat} : am_run 197 0 [some (.ref l0), some (.ref l1), none, none, none] [] w = (am_kf w l1 1).bind fun _ => (am_x 64 [.ref l1] w).bind fun r => bct r fun v w' => am_run 197 8 [some (.ref l0), some (.ref l1), none, none, none] (v.toList ++ []) w' := by
  refine (bu (ls'' := [some (.ref l0), some (.ref l1), none, none, none]) (st' := [.ref l0]) bf197_0 bf197_1 rfl rfl).trans ?_
  refine (bu (ls'' := [some (.ref l0), some (.ref l1), none, none, none]) (st' := []) bf197_1 bf197_4 rfl rfl).trans ?_
  refine (bu (ls'' := [some (.ref l0), some (.ref l1), none, none, none]) (st' := [.ref l1]) bf197_4 bf197_5 rfl rfl).trans ?_
  exact bkV bf197_5 bf197_8 rfl (by decide +kernel) (Nat.le_of_ble_eq_true rfl) rfl (bhd rfl)
theorem bk197_8 {w : am_Wd} {l0 : Nat} {l1 : Nat} {s0 : Nat} : am_run 197 8 [some (.ref l0), some (.ref l1), none, none, none] [.ref s0] w = (am_kf w l1 1).bind fun _ => (am_x 112 [.ref l1] w).bind fun r => bct r fun v w' => am_run 197 13 [some (.ref l0), some (.ref l1), none, some (.ref s0), none] (v.toList ++ []) w' := by
  refine (bu (ls'' := [some (.ref l0), some (.ref l1), none, some (.ref s0), none]) (st' := []) bf197_8 bf197_9 rfl rfl).trans ?_
  refine (bu (ls'' := [some (.ref l0), some (.ref l1), none, some (.ref s0), none]) (st' := [.ref l1]) bf197_9 bf197_10 rfl rfl).trans ?_
  exact bkV bf197_10 bf197_13 rfl (by decide +kernel) (Nat.le_of_ble_eq_true rfl) rfl (bhd rfl)
theorem bk197_13 {w : am_Wd} {l0 : Nat} {l1 : Nat} {l3 : Nat} {s0 : Int32} : am_run 197 13 [some (.ref l0), some (.ref l1), none, some (.ref l3), none] [.int s0] w = (am_kf w l1 1).bind fun _ => (am_x 66 [.ref l1] w).bind fun r => bct r fun v w' => am_run 197 19 [some (.ref l0), some (.ref l1), none, some (.ref l3), some (.int s0)] (v.toList ++ []) w' := by
  refine (bu (ls'' := [some (.ref l0), some (.ref l1), none, some (.ref l3), some (.int s0)]) (st' := []) bf197_13 bf197_15 rfl rfl).trans ?_
  refine (bu (ls'' := [some (.ref l0), some (.ref l1), none, some (.ref l3), some (.int s0)]) (st' := [.ref l1]) bf197_15 bf197_16 rfl rfl).trans ?_
  exact bkV bf197_16 bf197_19 rfl (by decide +kernel) (Nat.le_of_ble_eq_true rfl) rfl (bhd rfl)
theorem bk197_19 {w : am_Wd} {l0 : Nat} {l1 : Nat} {l3 : Nat} {l4 : Int32} {s0 : Int32} : am_run 197 19 [some (.ref l0), some (.ref l1), none, some (.ref l3), some (.int l4)] [.int s0] w = if s0 = nI 0 then am_run 197 41 [some (.ref l0), some (.ref l1), none, some (.ref l3), some (.int l4)] [] w else am_run 197 22 [some (.ref l0), none, none, some (.ref l3), some (.int l4)] [] w := by
  exact bifc bf197_19 rfl bf197_41 bf197_22 rfl rfl rfl
theorem bk197_41 {w : am_Wd} {l0 : Nat} {l1 : Nat} {l3 : Nat} {l4 : Int32} : am_run 197 41 [some (.ref l0), some (.ref l1), none, some (.ref l3), some (.int l4)] [] w = if (nI 1) = nI 0 then am_run 197 79 [some (.ref l0), none, none, some (.ref l3), some (.int l4)] [] w else am_run 197 47 [some (.ref l0), some (.ref l1), none, some (.ref l3), some (.int l4)] [] w := by
  refine (bu (ls'' := [some (.ref l0), some (.ref l1), none, some (.ref l3), some (.int l4)]) (st' := [.int (nI 1)]) bf197_41 bf197_44 rfl rfl).trans ?_
  exact bifc bf197_44 rfl bf197_79 bf197_47 rfl rfl rfl
theorem bk197_22 {w : am_Wd} {l0 : Nat} {l3 : Nat} {l4 : Int32} : am_run 197 22 [some (.ref l0), none, none, some (.ref l3), some (.int l4)] [] w = (am_pf w l0 0 1 (.int (nI 0))).bind fun w' => am_run 197 27 [some (.ref l0), none, none, some (.ref l3), some (.int l4)] [] w' := by
  refine (bu (ls'' := [some (.ref l0), none, none, some (.ref l3), some (.int l4)]) (st' := [.ref l0]) bf197_22 bf197_23 rfl rfl).trans ?_
  refine (bu (ls'' := [some (.ref l0), none, none, some (.ref l3), some (.int l4)]) (st' := [.int (nI 0), .ref l0]) bf197_23 bf197_24 rfl rfl).trans ?_
  exact bh bf197_24 bf197_27 rfl (bge_pf) rfl
theorem bk197_79 {w : am_Wd} {l0 : Nat} {l3 : Nat} {l4 : Int32} : am_run 197 79 [some (.ref l0), none, none, some (.ref l3), some (.int l4)] [] w = (am_pf w l0 0 1 (.int (nI 1))).bind fun w' => am_run 197 84 [some (.ref l0), none, none, some (.ref l3), some (.int l4)] [] w' := by
  refine (bu (ls'' := [some (.ref l0), none, none, some (.ref l3), some (.int l4)]) (st' := [.ref l0]) bf197_79 bf197_80 rfl rfl).trans ?_
  refine (bu (ls'' := [some (.ref l0), none, none, some (.ref l3), some (.int l4)]) (st' := [.int (nI 1), .ref l0]) bf197_80 bf197_81 rfl rfl).trans ?_
  exact bh bf197_81 bf197_84 rfl (bge_pf) rfl
theorem bk197_47 {w : am_Wd} {l0 : Nat} {l1 : Nat} {l3 : Nat} {l4 : Int32} : am_run 197 47 [some (.ref l0), some (.ref l1), none, some (.ref l3), some (.int l4)] [] w = (am_gf w l1 1 2).bind fun v => am_run 197 51 [some (.ref l0), none, none, some (.ref l3), some (.int l4)] (v :: []) w := by
  refine (bu (ls'' := [some (.ref l0), none, none, some (.ref l3), some (.int l4)]) (st' := [.ref l1]) bf197_47 bf197_48 rfl rfl).trans ?_
  exact bh bf197_48 bf197_51 rfl (fun _ _ => am_ge_rf w) rfl
theorem bk197_27 {w : am_Wd} {l0 : Nat} {l3 : Nat} {l4 : Int32} : am_run 197 27 [some (.ref l0), none, none, some (.ref l3), some (.int l4)] [] w = (am_x 156 [.ref l3, .int (nI 0), .int l4] w).bind fun r => bct r fun v w' => am_run 197 35 [none, none, none, none, none] (v.toList ++ [.ref l0]) w' := by
  refine (bu (ls'' := [none, none, none, some (.ref l3), some (.int l4)]) (st' := [.ref l0]) bf197_27 bf197_28 rfl rfl).trans ?_
  refine (bu (ls'' := [none, none, none, none, some (.int l4)]) (st' := [.ref l3, .ref l0]) bf197_28 bf197_29 rfl rfl).trans ?_
  refine (bu (ls'' := [none, none, none, none, some (.int l4)]) (st' := [.int (nI 0), .ref l3, .ref l0]) bf197_29 bf197_30 rfl rfl).trans ?_
  refine (bu (ls'' := [none, none, none, none, none]) (st' := [.int l4, .int (nI 0), .ref l3, .ref l0]) bf197_30 bf197_32 rfl rfl).trans ?_
  exact bkS bf197_32 bf197_35 rfl (by decide +kernel) (Nat.le_of_ble_eq_true rfl) rfl (bhd rfl)
theorem bk197_84 {w : am_Wd} {l0 : Nat} {l3 : Nat} {l4 : Int32} : am_run 197 84 [some (.ref l0), none, none, some (.ref l3), some (.int l4)] [] w = (am_x 156 [.ref l3, .int (nI 0), .int (bj_ishl l4 (nI 1))] w).bind fun r => bct r fun v w' => am_run 197 94 [none, none, none, none, none] (v.toList ++ [.ref l0]) w' := by
  refine (bu (ls'' := [none, none, none, some (.ref l3), some (.int l4)]) (st' := [.ref l0]) bf197_84 bf197_85 rfl rfl).trans ?_
  refine (bu (ls'' := [none, none, none, none, some (.int l4)]) (st' := [.ref l3, .ref l0]) bf197_85 bf197_86 rfl rfl).trans ?_
  refine (bu (ls'' := [none, none, none, none, some (.int l4)]) (st' := [.int (nI 0), .ref l3, .ref l0]) bf197_86 bf197_87 rfl rfl).trans ?_
  refine (bu (ls'' := [none, none, none, none, none]) (st' := [.int l4, .int (nI 0), .ref l3, .ref l0]) bf197_87 bf197_89 rfl rfl).trans ?_
  refine (bu (ls'' := [none, none, none, none, none]) (st' := [.int (nI 1), .int l4, .int (nI 0), .ref l3, .ref l0]) bf197_89 bf197_90 rfl rfl).trans ?_
  refine (bu (ls'' := [none, none, none, none, none]) (st' := [.int (bj_ishl l4 (nI 1)), .int (nI 0), .ref l3, .ref l0]) bf197_90 bf197_91 rfl rfl).trans ?_
  exact bkS bf197_91 bf197_94 rfl (by decide +kernel) (Nat.le_of_ble_eq_true rfl) rfl (bhd rfl)
theorem bk197_51 {w : am_Wd} {l0 : Nat} {l3 : Nat} {l4 : Int32} {s0 : Int32} : am_run 197 51 [some (.ref l0), none, none, some (.ref l3), some (.int l4)] [.int s0] w = if s0 = nI 0 then am_run 197 79 [some (.ref l0), none, none, some (.ref l3), some (.int l4)] [] w else am_run 197 54 [some (.ref l0), none, none, some (.ref l3), some (.int l4)] [] w := by
  exact bifc bf197_51 rfl bf197_79 bf197_54 rfl rfl rfl
theorem bk197_35 {w : am_Wd} {s0 : Nat} {s1 : Nat} : am_run 197 35 [none, none, none, none, none] [.ref s0, .ref s1] w = (am_pf w s1 0 0 (.ref s0)).bind fun w' => am_run 197 38 [none, none, none, none, none] [] w' := by
  exact bh bf197_35 bf197_38 rfl (bge_pf) rfl
theorem bk197_94 {w : am_Wd} {s0 : Nat} {s1 : Nat} : am_run 197 94 [none, none, none, none, none] [.ref s0, .ref s1] w = (am_pf w s1 0 0 (.ref s0)).bind fun w' => am_run 197 97 [none, none, none, none, none] [] w' := by
  exact bh bf197_94 bf197_97 rfl (bge_pf) rfl
-- bk197_54: list index out of range
theorem bk197_38 {w : am_Wd}  : am_run 197 38 [none, none, none, none, none] [] w = am_run 197 97 [none, none, none, none, none] [] w := by
  refine (bu (ls'' := [none, none, none, none, none]) (st' := []) bf197_38 bf197_97 rfl rfl).trans ?_
  rfl
theorem bk197_97 {w : am_Wd}  : am_run 197 97 [none, none, none, none, none] [] w = some (.inl none, w) := by
  exact am_e2 bf197_97 rfl (am_ge_rf w)
theorem bf198_0 : am_fetch (am_mth 198) 0 = some (.aload_n 1, 1, [], [2]) := by decide +kernel
theorem bf198_1 : am_fetch (am_mth 198) 1 = some (.ifnonnull 8, 3, [], [2]) := by decide +kernel
theorem bf198_4 : am_fetch (am_mth 198) 4 = some (.aload_n 0, 1, [], [1, 2]) := by decide +kernel
theorem bf198_5 : am_fetch (am_mth 198) 5 = some (.invokevirtual 204, 3, [], [0, 1, 2]) := by decide +kernel
theorem bf198_8 : am_fetch (am_mth 198) 8 = some (.areturn, 1, [], [0, 1, 2]) := by decide +kernel
theorem bf198_9 : am_fetch (am_mth 198) 9 = some (.aload_n 1, 1, [], [2]) := by decide +kernel
theorem bf198_10 : am_fetch (am_mth 198) 10 = some (.invokevirtual 32, 3, [0, 110, 0, 0, 1050, 1051, 1052, 75], [2]) := by decide +kernel
theorem bf198_13 : am_fetch (am_mth 198) 13 = some (.istore_n 2, 1, [], [2]) := by decide +kernel
theorem bf198_14 : am_fetch (am_mth 198) 14 = some (.aload_n 0, 1, [], []) := by decide +kernel
theorem bf198_15 : am_fetch (am_mth 198) 15 = some (.aload_n 0, 1, [], []) := by decide +kernel
theorem bf198_16 : am_fetch (am_mth 198) 16 = some (.getfield 79, 3, [0, 1, 3, 856], []) := by decide +kernel
theorem bf198_19 : am_fetch (am_mth 198) 19 = some (.iload_n 2, 1, [], []) := by decide +kernel
theorem bf198_20 : am_fetch (am_mth 198) 20 = some (.iadd, 1, [], []) := by decide +kernel
theorem bf198_21 : am_fetch (am_mth 198) 21 = some (.invokevirtual 100, 3, [2, 63, 1, 1, 877, 1711, 1745, 879, 73], []) := by decide +kernel
theorem bf198_24 : am_fetch (am_mth 198) 24 = some (.aload_n 0, 1, [], []) := by decide +kernel
theorem bf198_25 : am_fetch (am_mth 198) 25 = some (.aload_n 0, 1, [], []) := by decide +kernel
theorem bf198_26 : am_fetch (am_mth 198) 26 = some (.getfield 79, 3, [0, 1, 3, 856], []) := by decide +kernel
theorem bf198_29 : am_fetch (am_mth 198) 29 = some (.aload_n 1, 1, [], []) := by decide +kernel
theorem bf198_30 : am_fetch (am_mth 198) 30 = some (.invokevirtual 208, 3, [2, 155, 2, 1, 1059, 1717, 1746, 1061, 73], [1]) := by decide +kernel
theorem bf198_33 : am_fetch (am_mth 198) 33 = some (.aload_n 0, 1, [], [1]) := by decide +kernel
theorem bf198_34 : am_fetch (am_mth 198) 34 = some (.dup, 1, [], [1]) := by decide +kernel
theorem bf198_35 : am_fetch (am_mth 198) 35 = some (.getfield 79, 3, [0, 1, 3, 856], [1]) := by decide +kernel
theorem bf198_38 : am_fetch (am_mth 198) 38 = some (.iload_n 2, 1, [], [1]) := by decide +kernel
theorem bf198_39 : am_fetch (am_mth 198) 39 = some (.iadd, 1, [], [1, 2]) := by decide +kernel
theorem bf198_40 : am_fetch (am_mth 198) 40 = some (.putfield 79, 3, [0, 1, 3, 856], [1, 2]) := by decide +kernel
theorem bf198_43 : am_fetch (am_mth 198) 43 = some (.aload_n 0, 1, [], [1, 2]) := by decide +kernel
theorem bf198_44 : am_fetch (am_mth 198) 44 = some (.areturn, 1, [], [0, 1, 2]) := by decide +kernel
theorem bk198_0 {w : am_Wd} {l0 : Nat} {l1 : Nat} : am_run 198 0 [some (.ref l0), some (.ref l1), none] [] w = (am_kf w l1 0).bind fun _ => (am_x 110 [.ref l1] w).bind fun r => bct r fun v w' => am_run 198 13 [some (.ref l0), some (.ref l1), none] (v.toList ++ []) w' := by
  refine (bu (ls'' := [some (.ref l0), some (.ref l1), none]) (st' := [.ref l1]) bf198_0 bf198_1 rfl rfl).trans ?_
  refine (bu (ls'' := [some (.ref l0), some (.ref l1), none]) (st' := []) bf198_1 bf198_9 rfl rfl).trans ?_
  refine (bu (ls'' := [some (.ref l0), some (.ref l1), none]) (st' := [.ref l1]) bf198_9 bf198_10 rfl rfl).trans ?_
  exact bkV bf198_10 bf198_13 rfl (by decide +kernel) (Nat.le_of_ble_eq_true rfl) rfl (bhd rfl)
theorem bk198_13 {w : am_Wd} {l0 : Nat} {l1 : Nat} {s0 : Int32} : am_run 198 13 [some (.ref l0), some (.ref l1), none] [.int s0] w = (am_gf w l0 1 3).bind fun v => am_run 198 19 [some (.ref l0), some (.ref l1), some (.int s0)] (v :: [.ref l0]) w := by
  refine (bu (ls'' := [some (.ref l0), some (.ref l1), some (.int s0)]) (st' := []) bf198_13 bf198_14 rfl rfl).trans ?_
  refine (bu (ls'' := [some (.ref l0), some (.ref l1), some (.int s0)]) (st' := [.ref l0]) bf198_14 bf198_15 rfl rfl).trans ?_
  refine (bu (ls'' := [some (.ref l0), some (.ref l1), some (.int s0)]) (st' := [.ref l0, .ref l0]) bf198_15 bf198_16 rfl rfl).trans ?_
  exact bh bf198_16 bf198_19 rfl (fun _ _ => am_ge_rf w) rfl
theorem bk198_19 {w : am_Wd} {l0 : Nat} {l1 : Nat} {l2 : Int32} {s0 : Int32} {s1 : Nat} : am_run 198 19 [some (.ref l0), some (.ref l1), some (.int l2)] [.int s0, .ref s1] w = (am_kf w s1 1).bind fun _ => (am_x 63 [.ref s1, .int (s0 + l2)] w).bind fun r => bct r fun v w' => am_run 198 24 [some (.ref l0), some (.ref l1), some (.int l2)] (v.toList ++ []) w' := by
  refine (bu (ls'' := [some (.ref l0), some (.ref l1), some (.int l2)]) (st' := [.int l2, .int s0, .ref s1]) bf198_19 bf198_20 rfl rfl).trans ?_
  refine (bu (ls'' := [some (.ref l0), some (.ref l1), some (.int l2)]) (st' := [.int (s0 + l2), .ref s1]) bf198_20 bf198_21 rfl rfl).trans ?_
  exact bkV bf198_21 bf198_24 rfl (by decide +kernel) (Nat.le_of_ble_eq_true rfl) rfl (bhd rfl)
theorem bk198_24 {w : am_Wd} {l0 : Nat} {l1 : Nat} {l2 : Int32} : am_run 198 24 [some (.ref l0), some (.ref l1), some (.int l2)] [] w = (am_gf w l0 1 3).bind fun v => am_run 198 29 [some (.ref l0), some (.ref l1), some (.int l2)] (v :: [.ref l0]) w := by
  refine (bu (ls'' := [some (.ref l0), some (.ref l1), some (.int l2)]) (st' := [.ref l0]) bf198_24 bf198_25 rfl rfl).trans ?_
  refine (bu (ls'' := [some (.ref l0), some (.ref l1), some (.int l2)]) (st' := [.ref l0, .ref l0]) bf198_25 bf198_26 rfl rfl).trans ?_
  exact bh bf198_26 bf198_29 rfl (fun _ _ => am_ge_rf w) rfl
theorem bk198_29 {w : am_Wd} {l0 : Nat} {l1 : Nat} {l2 : Int32} {s0 : Int32} {s1 : Nat} : am_run 198 29 [some (.ref l0), some (.ref l1), some (.int l2)] [.int s0, .ref s1] w = (am_kf w s1 1).bind fun _ => (am_x 155 [.ref s1, .int s0, .ref l1] w).bind fun r => bct r fun v w' => am_run 198 33 [some (.ref l0), none, some (.int l2)] (v.toList ++ []) w' := by
  refine (bu (ls'' := [some (.ref l0), none, some (.int l2)]) (st' := [.ref l1, .int s0, .ref s1]) bf198_29 bf198_30 rfl rfl).trans ?_
  exact bkV bf198_30 bf198_33 rfl (by decide +kernel) (Nat.le_of_ble_eq_true rfl) rfl (bhd rfl)
theorem bk198_33 {w : am_Wd} {l0 : Nat} {l2 : Int32} : am_run 198 33 [some (.ref l0), none, some (.int l2)] [] w = (am_gf w l0 1 3).bind fun v => am_run 198 38 [some (.ref l0), none, some (.int l2)] (v :: [.ref l0]) w := by
  refine (bu (ls'' := [some (.ref l0), none, some (.int l2)]) (st' := [.ref l0]) bf198_33 bf198_34 rfl rfl).trans ?_
  refine (bu (ls'' := [some (.ref l0), none, some (.int l2)]) (st' := [.ref l0, .ref l0]) bf198_34 bf198_35 rfl rfl).trans ?_
  exact bh bf198_35 bf198_38 rfl (fun _ _ => am_ge_rf w) rfl
theorem bk198_38 {w : am_Wd} {l0 : Nat} {l2 : Int32} {s0 : Int32} {s1 : Nat} : am_run 198 38 [some (.ref l0), none, some (.int l2)] [.int s0, .ref s1] w = (am_pf w s1 1 3 (.int (s0 + l2))).bind fun w' => am_run 198 43 [some (.ref l0), none, none] [] w' := by
  refine (bu (ls'' := [some (.ref l0), none, none]) (st' := [.int l2, .int s0, .ref s1]) bf198_38 bf198_39 rfl rfl).trans ?_
  refine (bu (ls'' := [some (.ref l0), none, none]) (st' := [.int (s0 + l2), .ref s1]) bf198_39 bf198_40 rfl rfl).trans ?_
  exact bh bf198_40 bf198_43 rfl (bge_pf) rfl
theorem bk198_43 {w : am_Wd} {l0 : Nat} : am_run 198 43 [some (.ref l0), none, none] [] w = some (.inl (some (.ref l0)), w) := by
  refine (bu (ls'' := [none, none, none]) (st' := [.ref l0]) bf198_43 bf198_44 rfl rfl).trans ?_
  exact am_e2 bf198_44 rfl (am_ge_rf w)
theorem bf221_0 : am_fetch (am_mth 221) 0 = some (.aload_n 0, 1, [], []) := by decide +kernel
theorem bf221_1 : am_fetch (am_mth 221) 1 = some (.aload_n 1, 1, [], [0]) := by decide +kernel
theorem bf221_2 : am_fetch (am_mth 221) 2 = some (.aconst_null, 1, [], [0, 1]) := by decide +kernel
theorem bf221_3 : am_fetch (am_mth 221) 3 = some (.invokespecial 489, 3, [0, 197, 2, 971, 972, 75], [0, 1]) := by decide +kernel
theorem bf221_6 : am_fetch (am_mth 221) 6 = some (.return_, 1, [], [0, 1]) := by decide +kernel
theorem bk221_0 {w : am_Wd} {l0 : Nat} {l1 : Nat} : am_run 221 0 [some (.ref l0), some (.ref l1)] [] w = (am_x 197 [.ref l0, .ref l1, .null] w).bind fun r => bct r fun v w' => am_run 221 6 [none, none] (v.toList ++ []) w' := by
  refine (bu (ls'' := [none, some (.ref l1)]) (st' := [.ref l0]) bf221_0 bf221_1 rfl rfl).trans ?_
  refine (bu (ls'' := [none, none]) (st' := [.ref l1, .ref l0]) bf221_1 bf221_2 rfl rfl).trans ?_
  refine (bu (ls'' := [none, none]) (st' := [.null, .ref l1, .ref l0]) bf221_2 bf221_3 rfl rfl).trans ?_
  exact bkS bf221_3 bf221_6 rfl (by decide +kernel) (Nat.le_of_ble_eq_true rfl) rfl (bhd rfl)
theorem bk221_6 {w : am_Wd}  : am_run 221 6 [none, none] [] w = some (.inl none, w) := by
  exact am_e2 bf221_6 rfl (am_ge_rf w)
theorem bf222_0 : am_fetch (am_mth 222) 0 = some (.aload_n 0, 1, [], []) := by decide +kernel
theorem bf222_1 : am_fetch (am_mth 222) 1 = some (.aload_n 1, 1, [], []) := by decide +kernel
theorem bf222_2 : am_fetch (am_mth 222) 2 = some (.invokespecial 29, 3, [2, 198, 1, 1, 1040, 1715, 865, 1041, 73], [1]) := by decide +kernel
theorem bf222_5 : am_fetch (am_mth 222) 5 = some (.pop, 1, [], [1]) := by decide +kernel
theorem bf222_6 : am_fetch (am_mth 222) 6 = some (.aload_n 0, 1, [], [1]) := by decide +kernel
theorem bf222_7 : am_fetch (am_mth 222) 7 = some (.areturn, 1, [], [0, 1]) := by decide +kernel
theorem bk222_0 {w : am_Wd} {l0 : Nat} {l1 : Nat} : am_run 222 0 [some (.ref l0), some (.ref l1)] [] w = (am_kf w l0 1).bind fun _ => (am_x 198 [.ref l0, .ref l1] w).bind fun r => bct r fun v w' => am_run 222 5 [some (.ref l0), none] (v.toList ++ []) w' := by
  refine (bu (ls'' := [some (.ref l0), some (.ref l1)]) (st' := [.ref l0]) bf222_0 bf222_1 rfl rfl).trans ?_
  refine (bu (ls'' := [some (.ref l0), none]) (st' := [.ref l1, .ref l0]) bf222_1 bf222_2 rfl rfl).trans ?_
  exact bkV bf222_2 bf222_5 rfl (by decide +kernel) (Nat.le_of_ble_eq_true rfl) rfl (bhd rfl)
theorem bk222_5 {w : am_Wd} {l0 : Nat} {s0 : Nat} : am_run 222 5 [some (.ref l0), none] [.ref s0] w = some (.inl (some (.ref l0)), w) := by
  refine (bu (ls'' := [some (.ref l0), none]) (st' := []) bf222_5 bf222_6 rfl rfl).trans ?_
  refine (bu (ls'' := [none, none]) (st' := [.ref l0]) bf222_6 bf222_7 rfl rfl).trans ?_
  exact am_e2 bf222_7 rfl (am_ge_rf w)
theorem bf238_0 : am_fetch (am_mth 238) 0 = some (.new 18, 3, [0, 0, 4, 966, 967, 75], []) := by decide +kernel
theorem bf238_3 : am_fetch (am_mth 238) 3 = some (.dup, 1, [], []) := by decide +kernel
theorem bf238_4 : am_fetch (am_mth 238) 4 = some (.aload_n 0, 1, [], []) := by decide +kernel
theorem bf238_5 : am_fetch (am_mth 238) 5 = some (.invokespecial 137, 3, [0, 221, 1, 968, 969, 75], [0]) := by decide +kernel
theorem bf238_8 : am_fetch (am_mth 238) 8 = some (.areturn, 1, [], [0]) := by decide +kernel
theorem bk238_0 {w : am_Wd} {l0 : Nat} : am_run 238 0 [some (.ref l0)] [] w = am_run 238 3 [some (.ref l0)] (.ref w.2.1 :: []) (am_nw w (.inr (0, am_df 0 4)) 4) := by
  exact bn bf238_0 bf238_3 rfl rfl (am_ge_nw _ _ _)
theorem bk238_3 {w : am_Wd} {l0 : Nat} {s0 : Nat} : am_run 238 3 [some (.ref l0)] [.ref s0] w = (am_x 221 [.ref s0, .ref l0] w).bind fun r => bct r fun v w' => am_run 238 8 [none] (v.toList ++ [.ref s0]) w' := by
  refine (bu (ls'' := [some (.ref l0)]) (st' := [.ref s0, .ref s0]) bf238_3 bf238_4 rfl rfl).trans ?_
  refine (bu (ls'' := [none]) (st' := [.ref l0, .ref s0, .ref s0]) bf238_4 bf238_5 rfl rfl).trans ?_
  exact bkS bf238_5 bf238_8 rfl (by decide +kernel) (Nat.le_of_ble_eq_true rfl) rfl (bhd rfl)
theorem bk238_8 {w : am_Wd} {s0 : Nat} : am_run 238 8 [none] [.ref s0] w = some (.inl (some (.ref s0)), w) := by
  exact am_e2 bf238_8 rfl (am_ge_rf w)
theorem bf267_0 : am_fetch (am_mth 267) 0 = some (.aload_n 0, 1, [], [2]) := by decide +kernel
theorem bf267_1 : am_fetch (am_mth 267) 1 = some (.arraylength, 1, [], [2]) := by decide +kernel
theorem bf267_2 : am_fetch (am_mth 267) 2 = some (.aload_n 1, 1, [], [2]) := by decide +kernel
theorem bf267_3 : am_fetch (am_mth 267) 3 = some (.arraylength, 1, [], [2]) := by decide +kernel
theorem bf267_4 : am_fetch (am_mth 267) 4 = some (.if_icmp .ne 30, 3, [], [2]) := by decide +kernel
theorem bf267_7 : am_fetch (am_mth 267) 7 = some (.iconst 0, 1, [], [2]) := by decide +kernel
theorem bf267_8 : am_fetch (am_mth 267) 8 = some (.istore_n 2, 1, [], [2]) := by decide +kernel
theorem bf267_9 : am_fetch (am_mth 267) 9 = some (.iload_n 2, 1, [], []) := by decide +kernel
theorem bf267_10 : am_fetch (am_mth 267) 10 = some (.aload_n 0, 1, [], []) := by decide +kernel
theorem bf267_11 : am_fetch (am_mth 267) 11 = some (.arraylength, 1, [], []) := by decide +kernel
theorem bf267_12 : am_fetch (am_mth 267) 12 = some (.if_icmp .ge 20, 3, [], []) := by decide +kernel
theorem bf267_15 : am_fetch (am_mth 267) 15 = some (.aload_n 0, 1, [], []) := by decide +kernel
theorem bf267_16 : am_fetch (am_mth 267) 16 = some (.iload_n 2, 1, [], []) := by decide +kernel
theorem bf267_17 : am_fetch (am_mth 267) 17 = some (.baload, 1, [3], []) := by decide +kernel
theorem bf267_18 : am_fetch (am_mth 267) 18 = some (.aload_n 1, 1, [], []) := by decide +kernel
theorem bf267_19 : am_fetch (am_mth 267) 19 = some (.iload_n 2, 1, [], []) := by decide +kernel
theorem bf267_20 : am_fetch (am_mth 267) 20 = some (.baload, 1, [3], []) := by decide +kernel
theorem bf267_21 : am_fetch (am_mth 267) 21 = some (.if_icmp .eq 5, 3, [], []) := by decide +kernel
theorem bf267_24 : am_fetch (am_mth 267) 24 = some (.iconst 0, 1, [], [0, 1, 2]) := by decide +kernel
theorem bf267_25 : am_fetch (am_mth 267) 25 = some (.ireturn, 1, [1], [0, 1, 2]) := by decide +kernel
theorem bf267_26 : am_fetch (am_mth 267) 26 = some (.iinc 2 1, 3, [], []) := by decide +kernel
theorem bf267_29 : am_fetch (am_mth 267) 29 = some (.goto (-20), 3, [], []) := by decide +kernel
theorem bf267_32 : am_fetch (am_mth 267) 32 = some (.iconst 1, 1, [], [0, 1, 2]) := by decide +kernel
theorem bf267_33 : am_fetch (am_mth 267) 33 = some (.ireturn, 1, [1], [0, 1, 2]) := by decide +kernel
theorem bf267_34 : am_fetch (am_mth 267) 34 = some (.iconst 0, 1, [], [0, 1, 2]) := by decide +kernel
theorem bf267_35 : am_fetch (am_mth 267) 35 = some (.ireturn, 1, [1], [0, 1, 2]) := by decide +kernel
theorem bk267_0 {w : am_Wd} {l0 : Nat} {l1 : Nat} : am_run 267 0 [some (.ref l0), some (.ref l1), none] [] w = (am_len w l0).bind fun v => am_run 267 2 [some (.ref l0), some (.ref l1), none] (.int (nI v) :: []) w := by
  refine (bu (ls'' := [some (.ref l0), some (.ref l1), none]) (st' := [.ref l0]) bf267_0 bf267_1 rfl rfl).trans ?_
  exact bh bf267_1 bf267_2 rfl (fun _ _ => am_ge_rf w) rfl
theorem bk267_2 {w : am_Wd} {l0 : Nat} {l1 : Nat} {s0 : Int32} : am_run 267 2 [some (.ref l0), some (.ref l1), none] [.int s0] w = (am_len w l1).bind fun v => am_run 267 4 [some (.ref l0), some (.ref l1), none] (.int (nI v) :: [.int s0]) w := by
  refine (bu (ls'' := [some (.ref l0), some (.ref l1), none]) (st' := [.ref l1, .int s0]) bf267_2 bf267_3 rfl rfl).trans ?_
  exact bh bf267_3 bf267_4 rfl (fun _ _ => am_ge_rf w) rfl
theorem bk267_4 {w : am_Wd} {l0 : Nat} {l1 : Nat} {s0 : Int32} {s1 : Int32} : am_run 267 4 [some (.ref l0), some (.ref l1), none] [.int s0, .int s1] w = if ¬ s1 = s0 then am_run 267 34 [none, none, none] [] w else am_run 267 7 [some (.ref l0), some (.ref l1), none] [] w := by
  exact bic bf267_4 rfl bf267_34 bf267_7 rfl rfl rfl
theorem bk267_34 {w : am_Wd}  : am_run 267 34 [none, none, none] [] w = some (.inl (some (.int (nI 0))), w) := by
  refine (bu (ls'' := [none, none, none]) (st' := [.int (nI 0)]) bf267_34 bf267_35 rfl rfl).trans ?_
  exact am_e2 bf267_35 rfl (am_ge_rf w)
theorem bk267_7 {w : am_Wd} {l0 : Nat} {l1 : Nat} : am_run 267 7 [some (.ref l0), some (.ref l1), none] [] w = am_run 267 9 [some (.ref l0), some (.ref l1), some (.int (nI 0))] [] w := by
  refine (bu (ls'' := [some (.ref l0), some (.ref l1), none]) (st' := [.int (nI 0)]) bf267_7 bf267_8 rfl rfl).trans ?_
  refine (bu (ls'' := [some (.ref l0), some (.ref l1), some (.int (nI 0))]) (st' := []) bf267_8 bf267_9 rfl rfl).trans ?_
  rfl
theorem bk267_9 {w : am_Wd} {l0 : Nat} {l1 : Nat} {l2 : Int32} : am_run 267 9 [some (.ref l0), some (.ref l1), some (.int l2)] [] w = (am_len w l0).bind fun v => am_run 267 12 [some (.ref l0), some (.ref l1), some (.int l2)] (.int (nI v) :: [.int l2]) w := by
  refine (bu (ls'' := [some (.ref l0), some (.ref l1), some (.int l2)]) (st' := [.int l2]) bf267_9 bf267_10 rfl rfl).trans ?_
  refine (bu (ls'' := [some (.ref l0), some (.ref l1), some (.int l2)]) (st' := [.ref l0, .int l2]) bf267_10 bf267_11 rfl rfl).trans ?_
  exact bh bf267_11 bf267_12 rfl (fun _ _ => am_ge_rf w) rfl
theorem bk267_12 {w : am_Wd} {l0 : Nat} {l1 : Nat} {l2 : Int32} {s0 : Int32} {s1 : Int32} : am_run 267 12 [some (.ref l0), some (.ref l1), some (.int l2)] [.int s0, .int s1] w = if s0 ≤ s1 then am_run 267 32 [none, none, none] [] w else am_run 267 15 [some (.ref l0), some (.ref l1), some (.int l2)] [] w := by
  exact bic bf267_12 rfl bf267_32 bf267_15 rfl rfl rfl
theorem bk267_32 {w : am_Wd}  : am_run 267 32 [none, none, none] [] w = some (.inl (some (.int (nI 1))), w) := by
  refine (bu (ls'' := [none, none, none]) (st' := [.int (nI 1)]) bf267_32 bf267_33 rfl rfl).trans ?_
  exact am_e2 bf267_33 rfl (am_ge_rf w)
theorem bk267_15 {w : am_Wd} {l0 : Nat} {l1 : Nat} {l2 : Int32} : am_run 267 15 [some (.ref l0), some (.ref l1), some (.int l2)] [] w = (am_ri 3 w l0 l2).bind fun v => am_run 267 18 [some (.ref l0), some (.ref l1), some (.int l2)] (.int v :: []) w := by
  refine (bu (ls'' := [some (.ref l0), some (.ref l1), some (.int l2)]) (st' := [.ref l0]) bf267_15 bf267_16 rfl rfl).trans ?_
  refine (bu (ls'' := [some (.ref l0), some (.ref l1), some (.int l2)]) (st' := [.int l2, .ref l0]) bf267_16 bf267_17 rfl rfl).trans ?_
  exact bh bf267_17 bf267_18 rfl (fun _ _ => am_ge_rf w) rfl
theorem bk267_18 {w : am_Wd} {l0 : Nat} {l1 : Nat} {l2 : Int32} {s0 : Int32} : am_run 267 18 [some (.ref l0), some (.ref l1), some (.int l2)] [.int s0] w = (am_ri 3 w l1 l2).bind fun v => am_run 267 21 [some (.ref l0), some (.ref l1), some (.int l2)] (.int v :: [.int s0]) w := by
  refine (bu (ls'' := [some (.ref l0), some (.ref l1), some (.int l2)]) (st' := [.ref l1, .int s0]) bf267_18 bf267_19 rfl rfl).trans ?_
  refine (bu (ls'' := [some (.ref l0), some (.ref l1), some (.int l2)]) (st' := [.int l2, .ref l1, .int s0]) bf267_19 bf267_20 rfl rfl).trans ?_
  exact bh bf267_20 bf267_21 rfl (fun _ _ => am_ge_rf w) rfl
theorem bk267_21 {w : am_Wd} {l0 : Nat} {l1 : Nat} {l2 : Int32} {s0 : Int32} {s1 : Int32} : am_run 267 21 [some (.ref l0), some (.ref l1), some (.int l2)] [.int s0, .int s1] w = if s1 = s0 then am_run 267 26 [some (.ref l0), some (.ref l1), some (.int l2)] [] w else am_run 267 24 [none, none, none] [] w := by
  exact bic bf267_21 rfl bf267_26 bf267_24 rfl rfl rfl
theorem bk267_26 {w : am_Wd} {l0 : Nat} {l1 : Nat} {l2 : Int32} : am_run 267 26 [some (.ref l0), some (.ref l1), some (.int l2)] [] w = am_run 267 9 [some (.ref l0), some (.ref l1), some (.int (l2 + (nI 1)))] [] w := by
  refine (bu (ls'' := [some (.ref l0), some (.ref l1), some (.int (l2 + (nI 1)))]) (st' := []) bf267_26 bf267_29 rfl rfl).trans ?_
  refine (bu (ls'' := [some (.ref l0), some (.ref l1), some (.int (l2 + (nI 1)))]) (st' := []) bf267_29 bf267_9 rfl rfl).trans ?_
  rfl
theorem bk267_24 {w : am_Wd}  : am_run 267 24 [none, none, none] [] w = some (.inl (some (.int (nI 0))), w) := by
  refine (bu (ls'' := [none, none, none]) (st' := [.int (nI 0)]) bf267_24 bf267_25 rfl rfl).trans ?_
  exact am_e2 bf267_25 rfl (am_ge_rf w)
theorem bf268_0 : am_fetch (am_mth 268) 0 = some (.aload_n 0, 1, [], [2]) := by decide +kernel
theorem bf268_1 : am_fetch (am_mth 268) 1 = some (.aload_n 1, 1, [], [2]) := by decide +kernel
theorem bf268_2 : am_fetch (am_mth 268) 2 = some (.if_acmp .ne 5, 3, [], [2]) := by decide +kernel
theorem bf268_5 : am_fetch (am_mth 268) 5 = some (.iconst 1, 1, [], [0, 1, 2]) := by decide +kernel
theorem bf268_6 : am_fetch (am_mth 268) 6 = some (.ireturn, 1, [1], [0, 1, 2]) := by decide +kernel
theorem bf268_7 : am_fetch (am_mth 268) 7 = some (.aload_n 1, 1, [], [2]) := by decide +kernel
theorem bf268_8 : am_fetch (am_mth 268) 8 = some (.instanceof 10, 3, [0, 0, 1705], [2]) := by decide +kernel
theorem bf268_11 : am_fetch (am_mth 268) 11 = some (.ifCond .eq 43, 3, [], [2]) := by decide +kernel
theorem bf268_14 : am_fetch (am_mth 268) 14 = some (.aload_n 1, 1, [], [2]) := by decide +kernel
theorem bf268_15 : am_fetch (am_mth 268) 15 = some (.checkcast 10, 3, [0, 0, 1705], [1, 2]) := by decide +kernel
theorem bf268_18 : am_fetch (am_mth 268) 18 = some (.astore_n 2, 1, [], [1, 2]) := by decide +kernel
theorem bf268_19 : am_fetch (am_mth 268) 19 = some (.getstatic 38, 3, [0, 1, 1058], [1]) := by decide +kernel
theorem bf268_22 : am_fetch (am_mth 268) 22 = some (.ifCond .eq 14, 3, [], [1]) := by decide +kernel
theorem bf268_25 : am_fetch (am_mth 268) 25 = some (.aload_n 0, 1, [], [1]) := by decide +kernel
theorem bf268_26 : am_fetch (am_mth 268) 26 = some (.getfield 15, 3, [0, 0, 1, 1090], [1]) := by decide +kernel
theorem bf268_29 : am_fetch (am_mth 268) 29 = some (.aload_n 2, 1, [], [1]) := by decide +kernel
theorem bf268_30 : am_fetch (am_mth 268) 30 = some (.getfield 15, 3, [0, 0, 1, 1090], [1]) := by decide +kernel
theorem bf268_33 : am_fetch (am_mth 268) 33 = some (.if_icmp .ne 21, 3, [], [1]) := by decide +kernel
theorem bf268_36 : am_fetch (am_mth 268) 36 = some (.aload_n 0, 1, [], [1]) := by decide +kernel
theorem bf268_37 : am_fetch (am_mth 268) 37 = some (.getfield 9, 3, [0, 0, 0, 1089], [0, 1]) := by decide +kernel
theorem bf268_40 : am_fetch (am_mth 268) 40 = some (.aload_n 2, 1, [], [0, 1]) := by decide +kernel
theorem bf268_41 : am_fetch (am_mth 268) 41 = some (.getfield 9, 3, [0, 0, 0, 1089], [0, 1, 2]) := by decide +kernel
theorem bf268_44 : am_fetch (am_mth 268) 44 = some (.invokestatic 541, 3, [0, 267, 2, 1706, 1707, 77], [0, 1, 2]) := by decide +kernel
theorem bf268_47 : am_fetch (am_mth 268) 47 = some (.ifCond .eq 7, 3, [], [0, 1, 2]) := by decide +kernel
theorem bf268_50 : am_fetch (am_mth 268) 50 = some (.iconst 1, 1, [], [0, 1, 2]) := by decide +kernel
theorem bf268_51 : am_fetch (am_mth 268) 51 = some (.goto 4, 3, [], [0, 1, 2]) := by decide +kernel
theorem bf268_54 : am_fetch (am_mth 268) 54 = some (.iconst 0, 1, [], [0, 1, 2]) := by decide +kernel
theorem bf268_55 : am_fetch (am_mth 268) 55 = some (.ireturn, 1, [1], [0, 1, 2]) := by decide +kernel
theorem bk268_0 {w : am_Wd} {l0 : Nat} {l1 : Nat} : am_run 268 0 [some (.ref l0), some (.ref l1), none] [] w = if ¬ l0 = l1 then am_run 268 7 [some (.ref l0), some (.ref l1), none] [] w else am_run 268 5 [none, none, none] [] w := by
  refine (bu (ls'' := [some (.ref l0), some (.ref l1), none]) (st' := [.ref l0]) bf268_0 bf268_1 rfl rfl).trans ?_
  refine (bu (ls'' := [some (.ref l0), some (.ref l1), none]) (st' := [.ref l1, .ref l0]) bf268_1 bf268_2 rfl rfl).trans ?_
  exact bia bf268_2 rfl bf268_7 bf268_5 rfl rfl rfl
theorem bk268_7 {w : am_Wd} {l0 : Nat} {l1 : Nat} : am_run 268 7 [some (.ref l0), some (.ref l1), none] [] w = (am_kf w l1 0).bind fun _ => am_run 268 11 [some (.ref l0), some (.ref l1), none] (.int (nI 1) :: []) w := by
  refine (bu (ls'' := [some (.ref l0), some (.ref l1), none]) (st' := [.ref l1]) bf268_7 bf268_8 rfl rfl).trans ?_
  exact bh bf268_8 bf268_11 rfl (fun _ _ => am_ge_rf w) rfl
theorem bk268_5 {w : am_Wd}  : am_run 268 5 [none, none, none] [] w = some (.inl (some (.int (nI 1))), w) := by
  refine (bu (ls'' := [none, none, none]) (st' := [.int (nI 1)]) bf268_5 bf268_6 rfl rfl).trans ?_
  exact am_e2 bf268_6 rfl (am_ge_rf w)
theorem bk268_11 {w : am_Wd} {l0 : Nat} {l1 : Nat} {s0 : Int32} : am_run 268 11 [some (.ref l0), some (.ref l1), none] [.int s0] w = if s0 = nI 0 then am_run 268 54 [none, none, none] [] w else am_run 268 14 [some (.ref l0), some (.ref l1), none] [] w := by
  exact bifc bf268_11 rfl bf268_54 bf268_14 rfl rfl rfl
theorem bk268_54 {w : am_Wd}  : am_run 268 54 [none, none, none] [] w = am_run 268 55 [none, none, none] [.int (nI 0)] w := by
  refine (bu (ls'' := [none, none, none]) (st' := [.int (nI 0)]) bf268_54 bf268_55 rfl rfl).trans ?_
  rfl
theorem bk268_14 {w : am_Wd} {l0 : Nat} {l1 : Nat} : am_run 268 14 [some (.ref l0), some (.ref l1), none] [] w = (am_kf w l1 0).bind fun _ => am_run 268 18 [some (.ref l0), none, none] [.ref l1] w := by
  refine (bu (ls'' := [some (.ref l0), none, none]) (st' := [.ref l1]) bf268_14 bf268_15 rfl rfl).trans ?_
  exact bh bf268_15 bf268_18 rfl (fun _ _ => am_ge_rf w) rfl
theorem bk268_55 {w : am_Wd} {s0 : Int32} (hb : am_ok (am_rt 1) (.int s0) = true) : am_run 268 55 [none, none, none] [.int s0] w = some (.inl (some (.int s0)), w) := by
  exact am_e2 bf268_55 (by unfold am_stp; exact if_pos ⟨by decide, hb⟩) (am_ge_rf w)
theorem bk268_18 {w : am_Wd} {l0 : Nat} {s0 : Nat} : am_run 268 18 [some (.ref l0), none, none] [.ref s0] w = if (nI 1) = nI 0 then am_run 268 36 [some (.ref l0), none, some (.ref s0)] [] w else am_run 268 25 [some (.ref l0), none, some (.ref s0)] [] w := by
  refine (bu (ls'' := [some (.ref l0), none, some (.ref s0)]) (st' := []) bf268_18 bf268_19 rfl rfl).trans ?_
  refine (bu (ls'' := [some (.ref l0), none, some (.ref s0)]) (st' := [.int (nI 1)]) bf268_19 bf268_22 rfl rfl).trans ?_
  exact bifc bf268_22 rfl bf268_36 bf268_25 rfl rfl rfl
theorem bk268_36 {w : am_Wd} {l0 : Nat} {l2 : Nat} : am_run 268 36 [some (.ref l0), none, some (.ref l2)] [] w = (am_gf w l0 0 0).bind fun v => am_run 268 40 [none, none, some (.ref l2)] (v :: []) w := by
  refine (bu (ls'' := [none, none, some (.ref l2)]) (st' := [.ref l0]) bf268_36 bf268_37 rfl rfl).trans ?_
  exact bh bf268_37 bf268_40 rfl (fun _ _ => am_ge_rf w) rfl
theorem bk268_25 {w : am_Wd} {l0 : Nat} {l2 : Nat} : am_run 268 25 [some (.ref l0), none, some (.ref l2)] [] w = (am_gf w l0 0 1).bind fun v => am_run 268 29 [some (.ref l0), none, some (.ref l2)] (v :: []) w := by
  refine (bu (ls'' := [some (.ref l0), none, some (.ref l2)]) (st' := [.ref l0]) bf268_25 bf268_26 rfl rfl).trans ?_
  exact bh bf268_26 bf268_29 rfl (fun _ _ => am_ge_rf w) rfl
theorem bk268_40 {w : am_Wd} {l2 : Nat} {s0 : Nat} : am_run 268 40 [none, none, some (.ref l2)] [.ref s0] w = (am_gf w l2 0 0).bind fun v => am_run 268 44 [none, none, none] (v :: [.ref s0]) w := by
  refine (bu (ls'' := [none, none, none]) (st' := [.ref l2, .ref s0]) bf268_40 bf268_41 rfl rfl).trans ?_
  exact bh bf268_41 bf268_44 rfl (fun _ _ => am_ge_rf w) rfl
theorem bk268_29 {w : am_Wd} {l0 : Nat} {l2 : Nat} {s0 : Int32} : am_run 268 29 [some (.ref l0), none, some (.ref l2)] [.int s0] w = (am_gf w l2 0 1).bind fun v => am_run 268 33 [some (.ref l0), none, some (.ref l2)] (v :: [.int s0]) w := by
  refine (bu (ls'' := [some (.ref l0), none, some (.ref l2)]) (st' := [.ref l2, .int s0]) bf268_29 bf268_30 rfl rfl).trans ?_
  exact bh bf268_30 bf268_33 rfl (fun _ _ => am_ge_rf w) rfl
theorem bk268_44 {w : am_Wd} {s0 : Nat} {s1 : Nat} : am_run 268 44 [none, none, none] [.ref s0, .ref s1] w = (am_x 267 [.ref s1, .ref s0] w).bind fun r => bct r fun v w' => am_run 268 47 [none, none, none] (v.toList ++ []) w' := by
  exact bkS bf268_44 bf268_47 rfl (by decide +kernel) (Nat.le_of_ble_eq_true rfl) rfl (bhd rfl)
theorem bk268_33 {w : am_Wd} {l0 : Nat} {l2 : Nat} {s0 : Int32} {s1 : Int32} : am_run 268 33 [some (.ref l0), none, some (.ref l2)] [.int s0, .int s1] w = if ¬ s1 = s0 then am_run 268 54 [none, none, none] [] w else am_run 268 36 [some (.ref l0), none, some (.ref l2)] [] w := by
  exact bic bf268_33 rfl bf268_54 bf268_36 rfl rfl rfl
theorem bk268_47 {w : am_Wd} {s0 : Int32} : am_run 268 47 [none, none, none] [.int s0] w = if s0 = nI 0 then am_run 268 54 [none, none, none] [] w else am_run 268 50 [none, none, none] [] w := by
  exact bifc bf268_47 rfl bf268_54 bf268_50 rfl rfl rfl
theorem bk268_50 {w : am_Wd}  : am_run 268 50 [none, none, none] [] w = am_run 268 55 [none, none, none] [.int (nI 1)] w := by
  refine (bu (ls'' := [none, none, none]) (st' := [.int (nI 1)]) bf268_50 bf268_51 rfl rfl).trans ?_
  refine (bu (ls'' := [none, none, none]) (st' := [.int (nI 1)]) bf268_51 bf268_55 rfl rfl).trans ?_
  rfl
theorem bx59 {w : am_Wd} {a0 : Nat} : am_x 59 [.ref a0] w = am_run 59 0 [some (.ref a0)] [] w :=
  congrArg (fun l => am_run 59 0 l [] w) (bnr (ls := am_xp [.ref a0] ++ List.replicate (am_ml 59 - (am_xp [.ref a0]).length) none) (ls' := [some (.ref a0)]) bf59_0 rfl)
theorem bx60 {w : am_Wd} {a0 : Nat} {a1 : Nat} {a2 : Int32} : am_x 60 [.ref a0, .ref a1, .int a2] w = am_run 60 0 [some (.ref a0), some (.ref a1), some (.int a2)] [] w :=
  congrArg (fun l => am_run 60 0 l [] w) (bnr (ls := am_xp [.ref a0, .ref a1, .int a2] ++ List.replicate (am_ml 60 - (am_xp [.ref a0, .ref a1, .int a2]).length) none) (ls' := [some (.ref a0), some (.ref a1), some (.int a2)]) bf60_0 rfl)
theorem bx61 {w : am_Wd} {a0 : Nat} : am_x 61 [.ref a0] w = am_run 61 0 [some (.ref a0)] [] w :=
  congrArg (fun l => am_run 61 0 l [] w) (bnr (ls := am_xp [.ref a0] ++ List.replicate (am_ml 61 - (am_xp [.ref a0]).length) none) (ls' := [some (.ref a0)]) bf61_0 rfl)
theorem bx62 {w : am_Wd} {a0 : Int32} : am_x 62 [.int a0] w = am_run 62 0 [some (.int a0)] [] w :=
  congrArg (fun l => am_run 62 0 l [] w) (bnr (ls := am_xp [.int a0] ++ List.replicate (am_ml 62 - (am_xp [.int a0]).length) none) (ls' := [some (.int a0)]) bf62_0 rfl)
theorem bx63 {w : am_Wd} {a0 : Nat} {a1 : Int32} : am_x 63 [.ref a0, .int a1] w = am_run 63 0 [some (.ref a0), some (.int a1), none] [] w :=
  congrArg (fun l => am_run 63 0 l [] w) (bnr (ls := am_xp [.ref a0, .int a1] ++ List.replicate (am_ml 63 - (am_xp [.ref a0, .int a1]).length) none) (ls' := [some (.ref a0), some (.int a1), none]) bf63_0 rfl)
theorem bx64 {w : am_Wd} {a0 : Nat} : am_x 64 [.ref a0] w = am_run 64 0 [some (.ref a0)] [] w :=
  congrArg (fun l => am_run 64 0 l [] w) (bnr (ls := am_xp [.ref a0] ++ List.replicate (am_ml 64 - (am_xp [.ref a0]).length) none) (ls' := [some (.ref a0)]) bf64_0 rfl)
theorem bx65 {w : am_Wd} {a0 : Nat} {a1 : Int32} : am_x 65 [.ref a0, .int a1] w = am_run 65 0 [some (.ref a0), some (.int a1)] [] w :=
  congrArg (fun l => am_run 65 0 l [] w) (bnr (ls := am_xp [.ref a0, .int a1] ++ List.replicate (am_ml 65 - (am_xp [.ref a0, .int a1]).length) none) (ls' := [some (.ref a0), some (.int a1)]) bf65_0 rfl)
theorem bx66 {w : am_Wd} {a0 : Nat} : am_x 66 [.ref a0] w = am_run 66 0 [some (.ref a0)] [] w :=
  congrArg (fun l => am_run 66 0 l [] w) (bnr (ls := am_xp [.ref a0] ++ List.replicate (am_ml 66 - (am_xp [.ref a0]).length) none) (ls' := [some (.ref a0)]) bf66_0 rfl)
theorem bx67 {w : am_Wd} {a0 : Nat} : am_x 67 [.ref a0] w = am_run 67 0 [some (.ref a0)] [] w :=
  congrArg (fun l => am_run 67 0 l [] w) (bnr (ls := am_xp [.ref a0] ++ List.replicate (am_ml 67 - (am_xp [.ref a0]).length) none) (ls' := [some (.ref a0)]) bf67_0 rfl)
theorem bx68 {w : am_Wd} {a0 : Int32} {a1 : Int32} {a2 : Nat} : am_x 68 [.int a0, .int a1, .ref a2] w = am_run 68 0 [some (.int a0), some (.int a1), some (.ref a2), none, none, none, none] [] w :=
  congrArg (fun l => am_run 68 0 l [] w) (bnr (ls := am_xp [.int a0, .int a1, .ref a2] ++ List.replicate (am_ml 68 - (am_xp [.int a0, .int a1, .ref a2]).length) none) (ls' := [some (.int a0), some (.int a1), some (.ref a2), none, none, none, none]) bf68_0 rfl)
theorem bx69 {w : am_Wd} {a0 : Int32} : am_x 69 [.int a0] w = am_run 69 0 [some (.int a0), none, none, none] [] w :=
  congrArg (fun l => am_run 69 0 l [] w) (bnr (ls := am_xp [.int a0] ++ List.replicate (am_ml 69 - (am_xp [.int a0]).length) none) (ls' := [some (.int a0), none, none, none]) bf69_0 rfl)
theorem bx70 {w : am_Wd} {a0 : Int32} {a1 : Int32} : am_x 70 [.int a0, .int a1] w = am_run 70 0 [some (.int a0), some (.int a1)] [] w :=
  congrArg (fun l => am_run 70 0 l [] w) (bnr (ls := am_xp [.int a0, .int a1] ++ List.replicate (am_ml 70 - (am_xp [.int a0, .int a1]).length) none) (ls' := [some (.int a0), some (.int a1)]) bf70_0 rfl)
theorem bx108 {w : am_Wd} {a0 : Int32} {a1 : Int32} : am_x 108 [.int a0, .int a1] w = am_run 108 0 [some (.int a0), some (.int a1)] [] w :=
  congrArg (fun l => am_run 108 0 l [] w) (bnr (ls := am_xp [.int a0, .int a1] ++ List.replicate (am_ml 108 - (am_xp [.int a0, .int a1]).length) none) (ls' := [some (.int a0), some (.int a1)]) bf108_0 rfl)
theorem bx109 {w : am_Wd} {a0 : Nat} {a1 : Nat} {a2 : Int32} {a3 : Int32} : am_x 109 [.ref a0, .ref a1, .int a2, .int a3] w = am_run 109 0 [some (.ref a0), some (.ref a1), some (.int a2), some (.int a3)] [] w :=
  congrArg (fun l => am_run 109 0 l [] w) (bnr (ls := am_xp [.ref a0, .ref a1, .int a2, .int a3] ++ List.replicate (am_ml 109 - (am_xp [.ref a0, .ref a1, .int a2, .int a3]).length) none) (ls' := [some (.ref a0), some (.ref a1), some (.int a2), some (.int a3)]) bf109_0 rfl)
theorem bx110 {w : am_Wd} {a0 : Nat} : am_x 110 [.ref a0] w = am_run 110 0 [some (.ref a0)] [] w :=
  congrArg (fun l => am_run 110 0 l [] w) (bnr (ls := am_xp [.ref a0] ++ List.replicate (am_ml 110 - (am_xp [.ref a0]).length) none) (ls' := [some (.ref a0)]) bf110_0 rfl)
theorem bx111 {w : am_Wd} {a0 : Nat} : am_x 111 [.ref a0] w = am_run 111 0 [some (.ref a0)] [] w :=
  congrArg (fun l => am_run 111 0 l [] w) (bnr (ls := am_xp [.ref a0] ++ List.replicate (am_ml 111 - (am_xp [.ref a0]).length) none) (ls' := [some (.ref a0)]) bf111_0 rfl)
theorem bx112 {w : am_Wd} {a0 : Nat} : am_x 112 [.ref a0] w = am_run 112 0 [some (.ref a0)] [] w :=
  congrArg (fun l => am_run 112 0 l [] w) (bnr (ls := am_xp [.ref a0] ++ List.replicate (am_ml 112 - (am_xp [.ref a0]).length) none) (ls' := [some (.ref a0)]) bf112_0 rfl)
theorem bx113 {w : am_Wd} {a0 : Nat} {a1 : Int32} : am_x 113 [.ref a0, .int a1] w = am_run 113 0 [some (.ref a0), some (.int a1)] [] w :=
  congrArg (fun l => am_run 113 0 l [] w) (bnr (ls := am_xp [.ref a0, .int a1] ++ List.replicate (am_ml 113 - (am_xp [.ref a0, .int a1]).length) none) (ls' := [some (.ref a0), some (.int a1)]) bf113_0 rfl)
theorem bx114 {w : am_Wd} {a0 : Nat} {a1 : Nat} : am_x 114 [.ref a0, .ref a1] w = am_run 114 0 [some (.ref a0), some (.ref a1)] [] w :=
  congrArg (fun l => am_run 114 0 l [] w) (bnr (ls := am_xp [.ref a0, .ref a1] ++ List.replicate (am_ml 114 - (am_xp [.ref a0, .ref a1]).length) none) (ls' := [some (.ref a0), some (.ref a1)]) bf114_0 rfl)
theorem bx115 {w : am_Wd} {a0 : Int32} : am_x 115 [.int a0] w = am_run 115 0 [some (.int a0), none, none] [] w :=
  congrArg (fun l => am_run 115 0 l [] w) (bnr (ls := am_xp [.int a0] ++ List.replicate (am_ml 115 - (am_xp [.int a0]).length) none) (ls' := [some (.int a0), none, none]) bf115_0 rfl)
theorem bx116 {w : am_Wd} {a0 : Nat} {a1 : Int32} {a2 : Int32} : am_x 116 [.ref a0, .int a1, .int a2] w = am_run 116 0 [some (.ref a0), some (.int a1), some (.int a2), none, none] [] w :=
  congrArg (fun l => am_run 116 0 l [] w) (bnr (ls := am_xp [.ref a0, .int a1, .int a2] ++ List.replicate (am_ml 116 - (am_xp [.ref a0, .int a1, .int a2]).length) none) (ls' := [some (.ref a0), some (.int a1), some (.int a2), none, none]) bf116_0 rfl)
theorem bx152 {w : am_Wd} {a0 : Int32} : am_x 152 [.int a0] w = am_run 152 0 [some (.int a0)] [] w :=
  congrArg (fun l => am_run 152 0 l [] w) (bnr (ls := am_xp [.int a0] ++ List.replicate (am_ml 152 - (am_xp [.int a0]).length) none) (ls' := [some (.int a0)]) bf152_0 rfl)
theorem bx153 {w : am_Wd} {a0 : Nat} {a1 : Int32} : am_x 153 [.ref a0, .int a1] w = am_run 153 0 [some (.ref a0), some (.int a1)] [] w :=
  congrArg (fun l => am_run 153 0 l [] w) (bnr (ls := am_xp [.ref a0, .int a1] ++ List.replicate (am_ml 153 - (am_xp [.ref a0, .int a1]).length) none) (ls' := [some (.ref a0), some (.int a1)]) bf153_0 rfl)
theorem bx154 {w : am_Wd} {a0 : Nat} {a1 : Int32} : am_x 154 [.ref a0, .int a1] w = am_run 154 0 [some (.ref a0), some (.int a1)] [] w :=
  congrArg (fun l => am_run 154 0 l [] w) (bnr (ls := am_xp [.ref a0, .int a1] ++ List.replicate (am_ml 154 - (am_xp [.ref a0, .int a1]).length) none) (ls' := [some (.ref a0), some (.int a1)]) bf154_0 rfl)
theorem bx155 {w : am_Wd} {a0 : Nat} {a1 : Int32} {a2 : Nat} : am_x 155 [.ref a0, .int a1, .ref a2] w = am_run 155 0 [some (.ref a0), some (.int a1), some (.ref a2)] [] w :=
  congrArg (fun l => am_run 155 0 l [] w) (bnr (ls := am_xp [.ref a0, .int a1, .ref a2] ++ List.replicate (am_ml 155 - (am_xp [.ref a0, .int a1, .ref a2]).length) none) (ls' := [some (.ref a0), some (.int a1), some (.ref a2)]) bf155_0 rfl)
theorem bx156 {w : am_Wd} {a0 : Nat} {a1 : Int32} {a2 : Int32} : am_x 156 [.ref a0, .int a1, .int a2] w = am_run 156 0 [some (.ref a0), some (.int a1), some (.int a2)] [] w :=
  congrArg (fun l => am_run 156 0 l [] w) (bnr (ls := am_xp [.ref a0, .int a1, .int a2] ++ List.replicate (am_ml 156 - (am_xp [.ref a0, .int a1, .int a2]).length) none) (ls' := [some (.ref a0), some (.int a1), some (.int a2)]) bf156_0 rfl)
theorem bx196 {w : am_Wd} {a0 : Nat} {a1 : Int32} : am_x 196 [.ref a0, .int a1] w = am_run 196 0 [some (.ref a0), some (.int a1)] [] w :=
  congrArg (fun l => am_run 196 0 l [] w) (bnr (ls := am_xp [.ref a0, .int a1] ++ List.replicate (am_ml 196 - (am_xp [.ref a0, .int a1]).length) none) (ls' := [some (.ref a0), some (.int a1)]) bf196_0 rfl)
theorem bx197 {w : am_Wd} {a0 : Nat} {a1 : Nat}  : am_x 197 [.ref a0, .ref a1, .null] w = am_run 197 0 [some (.ref a0), some (.ref a1), none, none, none] [] w :=
  congrArg (fun l => am_run 197 0 l [] w) (bnr (ls := am_xp [.ref a0, .ref a1, .null] ++ List.replicate (am_ml 197 - (am_xp [.ref a0, .ref a1, .null]).length) none) (ls' := [some (.ref a0), some (.ref a1), none, none, none]) bf197_0 rfl)
theorem bx198 {w : am_Wd} {a0 : Nat} {a1 : Nat} : am_x 198 [.ref a0, .ref a1] w = am_run 198 0 [some (.ref a0), some (.ref a1), none] [] w :=
  congrArg (fun l => am_run 198 0 l [] w) (bnr (ls := am_xp [.ref a0, .ref a1] ++ List.replicate (am_ml 198 - (am_xp [.ref a0, .ref a1]).length) none) (ls' := [some (.ref a0), some (.ref a1), none]) bf198_0 rfl)
theorem bx221 {w : am_Wd} {a0 : Nat} {a1 : Nat} : am_x 221 [.ref a0, .ref a1] w = am_run 221 0 [some (.ref a0), some (.ref a1)] [] w :=
  congrArg (fun l => am_run 221 0 l [] w) (bnr (ls := am_xp [.ref a0, .ref a1] ++ List.replicate (am_ml 221 - (am_xp [.ref a0, .ref a1]).length) none) (ls' := [some (.ref a0), some (.ref a1)]) bf221_0 rfl)
theorem bx222 {w : am_Wd} {a0 : Nat} {a1 : Nat} : am_x 222 [.ref a0, .ref a1] w = am_run 222 0 [some (.ref a0), some (.ref a1)] [] w :=
  congrArg (fun l => am_run 222 0 l [] w) (bnr (ls := am_xp [.ref a0, .ref a1] ++ List.replicate (am_ml 222 - (am_xp [.ref a0, .ref a1]).length) none) (ls' := [some (.ref a0), some (.ref a1)]) bf222_0 rfl)
theorem bx238 {w : am_Wd} {a0 : Nat} : am_x 238 [.ref a0] w = am_run 238 0 [some (.ref a0)] [] w :=
  congrArg (fun l => am_run 238 0 l [] w) (bnr (ls := am_xp [.ref a0] ++ List.replicate (am_ml 238 - (am_xp [.ref a0]).length) none) (ls' := [some (.ref a0)]) bf238_0 rfl)
theorem bx267 {w : am_Wd} {a0 : Nat} {a1 : Nat} : am_x 267 [.ref a0, .ref a1] w = am_run 267 0 [some (.ref a0), some (.ref a1), none] [] w :=
  congrArg (fun l => am_run 267 0 l [] w) (bnr (ls := am_xp [.ref a0, .ref a1] ++ List.replicate (am_ml 267 - (am_xp [.ref a0, .ref a1]).length) none) (ls' := [some (.ref a0), some (.ref a1), none]) bf267_0 rfl)
theorem bx268 {w : am_Wd} {a0 : Nat} {a1 : Nat} : am_x 268 [.ref a0, .ref a1] w = am_run 268 0 [some (.ref a0), some (.ref a1), none] [] w :=
  congrArg (fun l => am_run 268 0 l [] w) (bnr (ls := am_xp [.ref a0, .ref a1] ++ List.replicate (am_ml 268 - (am_xp [.ref a0, .ref a1]).length) none) (ls' := [some (.ref a0), some (.ref a1), none]) bf268_0 rfl)
